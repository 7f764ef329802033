/-! the law, 6: the deed of one round -/
set_option maxHeartbeats 8000000 in
set_option maxRecDepth 100000 in
theorem lk_act {p : Program} {l : Launch} {e : Env} {s : State} {m : MethodId} {below : List Frame} {meth : Method} {c : Code} {b : Nat} {D : va_G} {ty : Nat → ClassId} {A : Nat → Prop} {X : Nat → Nat} {g0 e0 t0 n many : Nat} {pp : pT} {rf gf : Nat → Option Nat} {pl tp tq tf : Nat → Int32} (hl9 : l.stackTraces = false) {td mi L : Nat} {xs : Nat → Int32} (C0 : lw_At p s m meth c b L xs) (hL : L ≤ 260) (hAe : (fun q => s.heap.size ≤ q) = A) (hK : va_K D vwCl (wq_ty ty) s) (hE : wq_E A td mi s s.heap) (hpr : prOK pp n rf gf many) (hok : pOK pp) (hru : ∀ (i a : Nat), rf i = some a → a ∈ pRA pp) (hrr : ∀ i : Int32, 0 ≤ i.toInt → i.toInt < (nI many).toInt → ∃ a, gf i.toNatClampNeg = some a ∧ a ∈ pZA pp) (hn3 : 3 ≤ n) (hn6 : n ≤ 6) (hpl : ∀ p, p < n → pl p = 0) (ht : tp 0 = 0) (hq : tq 0 = 0) (htf : ∀ j, j < 6 → tf j = 102) {k : Nat} (hk : k < 9) (KK : LT p l e s m below meth c b D ty A X g0 e0 t0 n many pp rf gf pl tp tq tf k) : LK p l e s m below meth c b D ty A X g0 e0 t0 n many pp rf gf pl tp tq tf k := by
  obtain ⟨hx, hb, hr, hml, hown, hts, hX, hbl, hlocks, hgv⟩ := id C0
  have hA : ∀ q : Nat, s.heap.size ≤ q → A q := fun q h => by rw [← hAe]; exact h
  have hbA : ¬ A b := by rw [← hAe]; exact Nat.not_le.mpr hbl
  intro ne x ea es ef a5 a6 hn kn on cu pu gw b_1 b_2 b_3 b_p su po hds kr kv kb oa ob an ch cg fb mh ml ih lb ic cn c1 c2 c3 c4 c5 c6 wn w1 w2 w3 w4 w5 w6 ac obi sc br ai ao nn kp se co hxa hxf hch hnb hef h5 h6 hds5 hwi hwo hst hkp H locs ls hP hD hS hl
  obtain ⟨hc1, hc3⟩ := cnt_mono k hk
  have hne3 : ne ≤ 3 := Nat.le_trans (Nat.le_trans hnb hc1) hc3
  refine lv_iload hx hb dL_law_196 (lv_at hl 13 rfl) ?_
  refine lv_bipush (v := 9) hx hb dL_law_198 (by decide) ?_
  refine lv_icmp_ge (tgt := 726) hx hb dL_law_200 (by decide) (fun c0 => (nle (a := 9) (b := k) (by omega) (by omega) c0).elim) (fun _ => ?_)
  refine lv_iload_n hx hb dL_law_203 rfl (lv_at hl 3 rfl) ?_
  refine lv_if_eq (tgt := 726) hx hb dL_law_204 (by decide) (fun c0 => ((absurd c0 (by decide) : False)).elim) (fun _ => ?_)
  refine lv_sipush (v := 300) hx hb dL_law_207 (by decide) ?_
  refine lv_iconst (v := 5) hx hb dL_law_210 (by decide) ?_
  refine lv_iload hx hb dL_law_211 (lv_at hl 13 rfl) ?_
  refine lv_imul hx hb dL_law_213 ?_
  refine lv_topi (nm_r (e' := nI (5 * k)) (mul5 k (by omega)) ?_)
  refine lv_iadd hx hb dL_law_214 ?_
  refine lv_topi (nm_r (e' := nI (300 + 5 * k)) (nI_add 300 _) ?_)
  refine lv_istore (lv' := [(14, .int (nI (300 + 5 * k))), (0, .ref b), (1, .ref (X 0)), (2, .int (nI n)), (3, .int 1), (4, .int (nI many)), (5, .ref g0), (6, .ref e0), (7, .ref t0), (8, .int (nI ne)), (9, .int 0), (10, .int 0), (11, .int a5), (12, .int a6), (13, .int (nI k))]) hx hb dL_law_215 hl (by decide) rfl (fun ls hl => ?_)
  refine lv_aload_n hx hb dL_law_217 rfl (lv_at hl 1 rfl) ?_
  refine lv_iload hx hb dL_law_218 (lv_at hl 0 rfl) ?_
  refine lv_iconst (v := 1) hx hb dL_law_220 (by decide) ?_
  refine lv_iadd hx hb dL_law_221 ?_
  refine lv_topi (nm_r (e' := nI (300 + 5 * k + 1)) (kI_s _) ?_)
  refine lv_iload_n hx hb dL_law_222 rfl (lv_at hl 3 rfl) ?_
  obtain ⟨pr, h_pr, e_pr⟩ := pick_lt L xs (nI (300 + 5 * k + 1)) (m := n) (by omega) (by omega)
  refine wq_iQW (ws := (wB ty X g0 e0 (nI n) (nI many) 1 (nI ne) pl rf tp tq ea es hn kn on cu pu gw b_1 b_2 b_3 b_p su po hds kr kv kb oa ob an ch cg fb mh ml ih lb ic cn c1 c2 c3 c4 c5 c6 wn w1 w2 w3 w4 w5 w6 ac obi sc br ai ao nn kp se co (nI many).toNatClampNeg gf ef t0 tf)) (pl := (pw ty pp)) (wc := []) (va_runS (As := [.ref b, .int (nI (300 + 5 * k + 1)), .int (nI n)]) (rest := []) ⟨hx, hb, hml, hown, hts⟩ (k_L_pick l D ty td mi H.size L xs b (nI (300 + 5 * k + 1)) (nI n) (kI_nn (by omega)) (by rw [kI_ti (by omega)]; omega) hL (nI pr) e_pr.symm) (va_cwS 3 hts gw_pick rfl rfl rfl (by decide +kernel) ⟨(Nat.le_of_ble_eq_true rfl), (Nat.le_of_ble_eq_true rfl)⟩) (wq_preSS (wm_preS (vP_left hP) (vD_left hD) hK hE hS hA [] rfl) hX hbl hbA hS (wm_free (vD_left hD) hS hA [] rfl)) rfl rfl hl.1 rfl (lv_room (Nat.le_of_ble_eq_true rfl)) dL_law_223 ⟨(by show 1000 + 4000 * k + 0 ≤ 600258; omega), (by show 20000 + 24000 * k + 0 ≤ 7292074; omega)⟩) hS hA hP hD [] rfl (fun _ _ h => by rcases h with ⟨-, rfl⟩; rfl) (fun rr u H locs hw hP hD hS => ?_)
  obtain ⟨rfl, rfl⟩ := hw
  have hP : va_P D vwCl ((wB ty X g0 e0 (nI n) (nI many) 1 (nI ne) pl rf tp tq ea es hn kn on cu pu gw b_1 b_2 b_3 b_p su po hds kr kv kb oa ob an ch cg fb mh ml ih lb ic cn c1 c2 c3 c4 c5 c6 wn w1 w2 w3 w4 w5 w6 ac obi sc br ai ao nn kp se co (nI many).toNatClampNeg gf ef t0 tf) ++ (pw ty pp)) H := hP
  have hD : va_D A ((wB ty X g0 e0 (nI n) (nI many) 1 (nI ne) pl rf tp tq ea es hn kn on cu pu gw b_1 b_2 b_3 b_p su po hds kr kv kb oa ob an ch cg fb mh ml ih lb ic cn c1 c2 c3 c4 c5 c6 wn w1 w2 w3 w4 w5 w6 ac obi sc br ai ao nn kp se co (nI many).toNatClampNeg gf ef t0 tf) ++ (pw ty pp)) := hD
  refine W.widen (k := 1000 + 4000 * k) (n := 20000 + 24000 * k) (by omega) (by omega) ?_
  refine lv_istore (lv' := [(15, .int (nI pr)), (14, .int (nI (300 + 5 * k))), (0, .ref b), (1, .ref (X 0)), (2, .int (nI n)), (3, .int 1), (4, .int (nI many)), (5, .ref g0), (6, .ref e0), (7, .ref t0), (8, .int (nI ne)), (9, .int 0), (10, .int 0), (11, .int a5), (12, .int a6), (13, .int (nI k))]) hx hb dL_law_226 hl (by decide) rfl (fun ls hl => ?_)
  refine lv_aload_n hx hb dL_law_228 rfl (lv_at hl 2 rfl) ?_
  refine lv_iload hx hb dL_law_229 (lv_at hl 1 rfl) ?_
  refine lv_iconst (v := 5) hx hb dL_law_231 (by decide) ?_
  refine wq_iQW (ws := (wB ty X g0 e0 (nI n) (nI many) 1 (nI ne) pl rf tp tq ea es hn kn on cu pu gw b_1 b_2 b_3 b_p su po hds kr kv kb oa ob an ch cg fb mh ml ih lb ic cn c1 c2 c3 c4 c5 c6 wn w1 w2 w3 w4 w5 w6 ac obi sc br ai ao nn kp se co (nI many).toNatClampNeg gf ef t0 tf)) (pl := (pw ty pp)) (wc := []) (va_runS (As := [.ref b, .int (nI (300 + 5 * k)), .int 5]) (rest := []) ⟨hx, hb, hml, hown, hts⟩ (k_L_pick l D ty td mi H.size L xs b (nI (300 + 5 * k)) 5 (kI_nn (by omega)) (by decide) hL (nI (wt k)) (wt_pick hL xs hk)) (va_cwS 3 hts gw_pick rfl rfl rfl (by decide +kernel) ⟨(Nat.le_of_ble_eq_true rfl), (Nat.le_of_ble_eq_true rfl)⟩) (wq_preSS (wm_preS (vP_left hP) (vD_left hD) hK hE hS hA [] rfl) hX hbl hbA hS (wm_free (vD_left hD) hS hA [] rfl)) rfl rfl hl.1 rfl (lv_room (Nat.le_of_ble_eq_true rfl)) dL_law_232 ⟨(by show 1000 + 4000 * k + 0 ≤ 600258; omega), (by show 20000 + 24000 * k + 0 ≤ 7292074; omega)⟩) hS hA hP hD [] rfl (fun _ _ h => by rcases h with ⟨-, rfl⟩; rfl) (fun rr u H locs hw hP hD hS => ?_)
  obtain ⟨rfl, rfl⟩ := hw
  have hP : va_P D vwCl ((wB ty X g0 e0 (nI n) (nI many) 1 (nI ne) pl rf tp tq ea es hn kn on cu pu gw b_1 b_2 b_3 b_p su po hds kr kv kb oa ob an ch cg fb mh ml ih lb ic cn c1 c2 c3 c4 c5 c6 wn w1 w2 w3 w4 w5 w6 ac obi sc br ai ao nn kp se co (nI many).toNatClampNeg gf ef t0 tf) ++ (pw ty pp)) H := hP
  have hD : va_D A ((wB ty X g0 e0 (nI n) (nI many) 1 (nI ne) pl rf tp tq ea es hn kn on cu pu gw b_1 b_2 b_3 b_p su po hds kr kv kb oa ob an ch cg fb mh ml ih lb ic cn c1 c2 c3 c4 c5 c6 wn w1 w2 w3 w4 w5 w6 ac obi sc br ai ao nn kp se co (nI many).toNatClampNeg gf ef t0 tf) ++ (pw ty pp)) := hD
  refine W.widen (k := 1000 + 4000 * k) (n := 20000 + 24000 * k) (by omega) (by omega) ?_
  refine lv_istore (lv' := [(16, .int (nI (wt k))), (15, .int (nI pr)), (14, .int (nI (300 + 5 * k))), (0, .ref b), (1, .ref (X 0)), (2, .int (nI n)), (3, .int 1), (4, .int (nI many)), (5, .ref g0), (6, .ref e0), (7, .ref t0), (8, .int (nI ne)), (9, .int 0), (10, .int 0), (11, .int a5), (12, .int a6), (13, .int (nI k))]) hx hb dL_law_235 hl (by decide) rfl (fun ls hl => ?_)
  refine lv_iconst (v := 0) hx hb dL_law_237 (by decide) ?_
  refine lv_istore (lv' := [(17, .int 0), (16, .int (nI (wt k))), (15, .int (nI pr)), (14, .int (nI (300 + 5 * k))), (0, .ref b), (1, .ref (X 0)), (2, .int (nI n)), (3, .int 1), (4, .int (nI many)), (5, .ref g0), (6, .ref e0), (7, .ref t0), (8, .int (nI ne)), (9, .int 0), (10, .int 0), (11, .int a5), (12, .int a6), (13, .int (nI k))]) hx hb dL_law_238 hl (by decide) rfl (fun ls hl => ?_)
  refine lv_iconst (v := 0) hx hb dL_law_240 (by decide) ?_
  refine lv_istore (lv' := [(18, .int 0), (17, .int 0), (16, .int (nI (wt k))), (15, .int (nI pr)), (14, .int (nI (300 + 5 * k))), (0, .ref b), (1, .ref (X 0)), (2, .int (nI n)), (3, .int 1), (4, .int (nI many)), (5, .ref g0), (6, .ref e0), (7, .ref t0), (8, .int (nI ne)), (9, .int 0), (10, .int 0), (11, .int a5), (12, .int a6), (13, .int (nI k))]) hx hb dL_law_241 hl (by decide) rfl (fun ls hl => ?_)
  have hl : lv_has ls 21 [(0, .ref b), (1, .ref (X 0)), (2, .int (nI n)), (3, .int 1), (4, .int (nI many)), (5, .ref g0), (6, .ref e0), (7, .ref t0), (8, .int (nI ne)), (9, .int 0), (10, .int 0), (11, .int a5), (12, .int a6), (13, .int (nI k)), (14, .int (nI (300 + 5 * k))), (15, .int (nI pr)), (16, .int (nI (wt k))), (17, .int 0), (18, .int 0)] := lv_sub hl [5, 6, 7, 8, 9, 10, 11, 12, 13, 14, 15, 16, 17, 18, 4, 3, 2, 1, 0] rfl
  have K278 : ∀ (fl : Int32), (fl = 0 ∧ (¬ ∃ i, i < ne ∧ x i = pr) ∨ fl = 1 ∧ ∃ i, i < ne ∧ x i = pr) → ∀ (ls : Array Slot), lv_has ls 21 [(0, .ref b), (1, .ref (X 0)), (2, .int (nI n)), (3, .int 1), (4, .int (nI many)), (5, .ref g0), (6, .ref e0), (7, .ref t0), (8, .int (nI ne)), (9, .int 0), (10, .int 0), (11, .int a5), (12, .int a6), (13, .int (nI k)), (14, .int (nI (300 + 5 * k))), (15, .int (nI pr)), (16, .int (nI (wt k))), (17, .int fl)] → W p l e room_1 s m #[Value.ref b] below meth c H locs (1000 + 4000 * k) (20000 + 24000 * k) (lw_Z below #[Value.ref b] s) (F0 m 278 ls []) := by
    intro fl hfl ls hl
    rcases wt_cases k hk with ⟨hw, hcn, hk1⟩ | ⟨hw, hcn, hk1⟩ | hw | hw
    · rw [hw] at hl
      refine lv_iload hx hb dL_law_278 (lv_at hl 16 rfl) ?_
      refine lv_if_ne (tgt := 341) hx hb dL_law_280 (by decide) (fun c0 => (c0 rfl).elim) (fun _ => ?_)
      refine lv_aload_n hx hb dL_law_283 rfl (lv_at hl 1 rfl) ?_
      refine lv_bipush (v := 9) hx hb dL_law_284 (by decide) ?_
      refine lv_iload hx hb dL_law_286 (lv_at hl 15 rfl) ?_
      refine lv_bipush (v := 99) hx hb dL_law_288 (by decide) ?_
      refine lv_bipush (v := 99) hx hb dL_law_290 (by decide) ?_
      refine lv_iconst (v := 0) hx hb dL_law_292 (by decide) ?_
      refine lv_iconst (v := 0) hx hb dL_law_293 (by decide) ?_
      rcases hfl with ⟨rfl, hno⟩ | ⟨rfl, hyes⟩
      · refine wq_xiQW (ws := (wB ty X g0 e0 (nI n) (nI many) 1 (nI ne) pl rf tp tq ea es hn kn on cu pu gw b_1 b_2 b_3 b_p su po hds kr kv kb oa ob an ch cg fb mh ml ih lb ic cn c1 c2 c3 c4 c5 c6 wn w1 w2 w3 w4 w5 w6 ac obi sc br ai ao nn kp se co (nI many).toNatClampNeg gf ef t0 tf)) (pl := (pw ty pp)) (wc := (wW_k_L_deed_9 ty X (nI n) (nI many) 1 (nI ne) pl ea es hn kn on cu pu gw an ch cg fb mh ml ih lb ic nn kp)) (vx_runSX (As := [.ref (X 0), .int 9, .int (nI pr), .int 99, .int 99, .int 0, .int 0]) (rest := []) ⟨hx, hb, hml, hown, hts⟩ (k_L_deed_9 l hl9 D ty td mi H.size X (nI n) (nI many) 1 (nI ne) pl ea es hn kn on cu pu gw an ch cg fb mh ml ih lb ic nn kp (nI pr) 99 99 0 0 (nI ne, nI (ne + 1), 0, 0, upd ea ne (nI (64 * pr)), upd es ne (vp_nar .char 102), 0) ((e_deed9_new hxa (by omega) hn6 h_pr (hpl pr h_pr) hno es cu ic kp 99 99).symm)) (vx_cwSW 7 hts gw_deed_9 rfl rfl rfl (by decide +kernel) ⟨(Nat.le_of_ble_eq_true rfl), (Nat.le_of_ble_eq_true rfl)⟩) (wm_preS (vP_left hP) (vD_left hD) hK hE hS hA [true, true, true, false, false, false, true, true, true, false, false, false, false, false, false, false, false, false, false, false, true, false, false, false, false, false, false, false, false, false, false, false, false, false, false, false, false, false, false, false, false, false, false, true] rfl) rfl rfl hl.1 rfl (lv_room (Nat.le_of_ble_eq_true rfl)) dL_law_294 ⟨(by show 1000 + 4000 * k + 2 ≤ 600258; omega), (by show 20000 + 24000 * k + 12 ≤ 7292074; omega)⟩) hS hA hP hD [true, true, true, false, false, false, true, true, true, false, false, false, false, false, false, false, false, false, false, false, true, false, false, false, false, false, false, false, false, false, false, false, false, false, false, false, false, false, false, false, false, false, false, true] rfl (fun _ _ h => by rcases h with ⟨-, rfl⟩; rfl) (fun _ _ h => h.elim) (fun E9 u H locs q9 ce hw hP hD hS hce hcv hcl => hw.elim) (fun rr u H locs hw hP hD hS => ?_)
        obtain ⟨rfl, rfl⟩ := hw
        have hP : va_P D vwCl ((wB ty X g0 e0 (nI n) (nI many) 1 (nI (ne + 1)) pl rf tp tq (upd ea ne (nI (64 * pr))) (upd es ne (vp_nar .char 102)) hn kn on 0 pu gw b_1 b_2 b_3 b_p su po hds kr kv kb oa ob an ch cg fb mh ml ih lb 0 cn c1 c2 c3 c4 c5 c6 wn w1 w2 w3 w4 w5 w6 ac obi sc br ai ao nn 0 se co (nI many).toNatClampNeg gf ef t0 tf) ++ (pw ty pp)) H := hP
        have hD : va_D A ((wB ty X g0 e0 (nI n) (nI many) 1 (nI (ne + 1)) pl rf tp tq (upd ea ne (nI (64 * pr))) (upd es ne (vp_nar .char 102)) hn kn on 0 pu gw b_1 b_2 b_3 b_p su po hds kr kv kb oa ob an ch cg fb mh ml ih lb 0 cn c1 c2 c3 c4 c5 c6 wn w1 w2 w3 w4 w5 w6 ac obi sc br ai ao nn 0 se co (nI many).toNatClampNeg gf ef t0 tf) ++ (pw ty pp)) := hD
        refine W.widen (k := 1002 + 4000 * k) (n := 20012 + 24000 * k) (by omega) (by omega) ?_
        refine lv_istore (lv' := [(18, .int (nI ne)), (0, .ref b), (1, .ref (X 0)), (2, .int (nI n)), (3, .int 1), (4, .int (nI many)), (5, .ref g0), (6, .ref e0), (7, .ref t0), (8, .int (nI ne)), (9, .int 0), (10, .int 0), (11, .int a5), (12, .int a6), (13, .int (nI k)), (14, .int (nI (300 + 5 * k))), (15, .int (nI pr)), (16, .int (nI 0)), (17, .int 0)]) hx hb dL_law_297 hl (by decide) rfl (fun ls hl => ?_)
        refine lv_iload hx hb dL_law_299 (lv_at hl 0 rfl) ?_
        refine lv_iload hx hb dL_law_301 (lv_at hl 18 rfl) ?_
        refine lv_if_eq (tgt := 312) hx hb dL_law_303 (by decide) (fun _ => ?_) (fun c0 => (c0 rfl).elim)
        refine lv_iload hx hb dL_law_312 (lv_at hl 9 rfl) ?_
        refine lv_icmp_ne (tgt := 321) hx hb dL_law_314 (by decide) (fun c0 => (c0 rfl).elim) (fun _ => ?_)
        refine lv_iconst (v := 1) hx hb dL_law_317 (by decide) ?_
        refine lv_goto (tgt := 322) hx hb dL_law_318 (by decide) ?_
        refine lv_istore_n (lv' := [(3, .int 1), (18, .int (nI ne)), (0, .ref b), (1, .ref (X 0)), (2, .int (nI n)), (4, .int (nI many)), (5, .ref g0), (6, .ref e0), (7, .ref t0), (8, .int (nI ne)), (9, .int 0), (10, .int 0), (11, .int a5), (12, .int a6), (13, .int (nI k)), (14, .int (nI (300 + 5 * k))), (15, .int (nI pr)), (16, .int (nI 0)), (17, .int 0)]) hx hb dL_law_322 rfl hl (by decide) rfl (fun ls hl => ?_)
        refine lv_iload hx hb dL_law_323 (lv_at hl 1 rfl) ?_
        refine lv_if_lt (tgt := 338) hx hb dL_law_325 (by decide) (fun c0 => (kI_n0 (k := ne) (by omega) c0).elim) (fun _ => ?_)
        refine lv_aload hx hb dL_law_328 (lv_at hl 7 rfl) ?_
        refine lv_iload hx hb dL_law_330 (lv_at hl 9 rfl) ?_
        refine lv_iload hx hb dL_law_332 (lv_at hl 16 rfl) ?_
        refine va_iast (D := D) hx hb hK hP hD hS 49 0 rfl rfl (wi_in (by rw [kI_ti (by omega)]; omega) (by rw [kI_ti (by omega)]; omega)) dL_law_334 (fun H locs hP hD hS => ?_)
        have hP : va_P D vwCl ((wB ty X g0 e0 (nI n) (nI many) 1 (nI (ne + 1)) pl rf tp tq (upd ea ne (nI (64 * pr))) (upd es ne (vp_nar .char 102)) hn kn on 0 pu gw b_1 b_2 b_3 b_p su po hds kr kv kb oa ob an ch cg fb mh ml ih lb 0 cn c1 c2 c3 c4 c5 c6 wn w1 w2 w3 w4 w5 w6 ac obi sc br ai ao nn 0 se co (nI many).toNatClampNeg gf (upd ef (nI ne).toNatClampNeg (nI pr)) t0 tf) ++ (pw ty pp)) H := hP
        have hD : va_D A ((wB ty X g0 e0 (nI n) (nI many) 1 (nI (ne + 1)) pl rf tp tq (upd ea ne (nI (64 * pr))) (upd es ne (vp_nar .char 102)) hn kn on 0 pu gw b_1 b_2 b_3 b_p su po hds kr kv kb oa ob an ch cg fb mh ml ih lb 0 cn c1 c2 c3 c4 c5 c6 wn w1 w2 w3 w4 w5 w6 ac obi sc br ai ao nn 0 se co (nI many).toNatClampNeg gf (upd ef (nI ne).toNatClampNeg (nI pr)) t0 tf) ++ (pw ty pp)) := hD
        refine lv_iinc (v := nI (ne + 1)) (lv' := [(8, .int (nI (ne + 1))), (3, .int 1), (18, .int (nI ne)), (0, .ref b), (1, .ref (X 0)), (2, .int (nI n)), (4, .int (nI many)), (5, .ref g0), (6, .ref e0), (7, .ref t0), (9, .int 0), (10, .int 0), (11, .int a5), (12, .int a6), (13, .int (nI k)), (14, .int (nI (300 + 5 * k))), (15, .int (nI pr)), (16, .int (nI 0)), (17, .int 0)]) hx hb dL_law_335 hl (k := 9) rfl (kI_s ne) (by decide) rfl (fun ls hl => ?_)
        refine lv_goto (tgt := 606) hx hb dL_law_338 (by decide) ?_
        have hl : lv_has ls 21 [(0, .ref b), (1, .ref (X 0)), (2, .int (nI n)), (3, .int 1), (4, .int (nI many)), (5, .ref g0), (6, .ref e0), (7, .ref t0), (8, .int (nI (ne + 1))), (9, .int 0), (10, .int 0), (11, .int a5), (12, .int a6), (13, .int (nI k))] := lv_sub hl [3, 4, 5, 1, 6, 7, 8, 9, 0, 10, 11, 12, 13, 14] rfl
        refine W.widen (k := 1010 + 4000 * k) (n := 20100 + 24000 * k) (by omega) (by omega) ?_
        exact KK (ne + 1) (exX x ne pr) (upd ea ne (nI (64 * pr))) (upd es ne (vp_nar .char 102)) (upd ef (nI ne).toNatClampNeg (nI pr)) a5 a6 hn kn on 0 pu gw b_1 b_2 b_3 b_p su po hds kr kv kb oa ob an ch cg fb mh ml ih lb 0 cn c1 c2 c3 c4 c5 c6 wn w1 w2 w3 w4 w5 w6 ac obi sc br ai ao nn 0 se co (exA_new hxa (by omega) (by omega)) (exF_new hxf (by omega)) (ech_new hch ne) (by omega) (eef_new hef (by omega) pr) h5 h6 hds5 hwi hwo (Or.inl ⟨rfl, rfl, rfl⟩) (fun _ => rfl) H locs ls hP hD hS hl
      · refine wq_xiQW (ws := (wB ty X g0 e0 (nI n) (nI many) 1 (nI ne) pl rf tp tq ea es hn kn on cu pu gw b_1 b_2 b_3 b_p su po hds kr kv kb oa ob an ch cg fb mh ml ih lb ic cn c1 c2 c3 c4 c5 c6 wn w1 w2 w3 w4 w5 w6 ac obi sc br ai ao nn kp se co (nI many).toNatClampNeg gf ef t0 tf)) (pl := (pw ty pp)) (wc := (wW_k_L_deed_9 ty X (nI n) (nI many) 1 (nI ne) pl ea es hn kn on cu pu gw an ch cg fb mh ml ih lb ic nn kp)) (vx_runSX (As := [.ref (X 0), .int 9, .int (nI pr), .int 99, .int 99, .int 0, .int 0]) (rest := []) ⟨hx, hb, hml, hown, hts⟩ (k_L_deed_9 l hl9 D ty td mi H.size X (nI n) (nI many) 1 (nI ne) pl ea es hn kn on cu pu gw an ch cg fb mh ml ih lb ic nn kp (nI pr) 99 99 0 0 ((-2003), nI ne, ic, kp, ea, es, cu) ((e_deed9_old hxa (by omega) hn6 h_pr (hpl pr h_pr) hyes es cu ic kp 99 99).symm)) (vx_cwSW 7 hts gw_deed_9 rfl rfl rfl (by decide +kernel) ⟨(Nat.le_of_ble_eq_true rfl), (Nat.le_of_ble_eq_true rfl)⟩) (wm_preS (vP_left hP) (vD_left hD) hK hE hS hA [true, true, true, false, false, false, true, true, true, false, false, false, false, false, false, false, false, false, false, false, true, false, false, false, false, false, false, false, false, false, false, false, false, false, false, false, false, false, false, false, false, false, false, true] rfl) rfl rfl hl.1 rfl (lv_room (Nat.le_of_ble_eq_true rfl)) dL_law_294 ⟨(by show 1000 + 4000 * k + 2 ≤ 600258; omega), (by show 20000 + 24000 * k + 12 ≤ 7292074; omega)⟩) hS hA hP hD [true, true, true, false, false, false, true, true, true, false, false, false, false, false, false, false, false, false, false, false, true, false, false, false, false, false, false, false, false, false, false, false, false, false, false, false, false, false, false, false, false, false, false, true] rfl (fun _ _ h => by rcases h with ⟨-, rfl⟩; rfl) (fun _ _ h => h.elim) (fun E9 u H locs q9 ce hw hP hD hS hce hcv hcl => hw.elim) (fun rr u H locs hw hP hD hS => ?_)
        obtain ⟨rfl, rfl⟩ := hw
        have hP : va_P D vwCl ((wB ty X g0 e0 (nI n) (nI many) 1 (nI ne) pl rf tp tq ea es hn kn on cu pu gw b_1 b_2 b_3 b_p su po hds kr kv kb oa ob an ch cg fb mh ml ih lb ic cn c1 c2 c3 c4 c5 c6 wn w1 w2 w3 w4 w5 w6 ac obi sc br ai ao nn kp se co (nI many).toNatClampNeg gf ef t0 tf) ++ (pw ty pp)) H := hP
        have hD : va_D A ((wB ty X g0 e0 (nI n) (nI many) 1 (nI ne) pl rf tp tq ea es hn kn on cu pu gw b_1 b_2 b_3 b_p su po hds kr kv kb oa ob an ch cg fb mh ml ih lb ic cn c1 c2 c3 c4 c5 c6 wn w1 w2 w3 w4 w5 w6 ac obi sc br ai ao nn kp se co (nI many).toNatClampNeg gf ef t0 tf) ++ (pw ty pp)) := hD
        refine W.widen (k := 1002 + 4000 * k) (n := 20012 + 24000 * k) (by omega) (by omega) ?_
        refine lv_istore (lv' := [(18, .int (-2003)), (0, .ref b), (1, .ref (X 0)), (2, .int (nI n)), (3, .int 1), (4, .int (nI many)), (5, .ref g0), (6, .ref e0), (7, .ref t0), (8, .int (nI ne)), (9, .int 0), (10, .int 0), (11, .int a5), (12, .int a6), (13, .int (nI k)), (14, .int (nI (300 + 5 * k))), (15, .int (nI pr)), (16, .int (nI 0)), (17, .int 1)]) hx hb dL_law_297 hl (by decide) rfl (fun ls hl => ?_)
        refine lv_iload hx hb dL_law_299 (lv_at hl 0 rfl) ?_
        refine lv_iload hx hb dL_law_301 (lv_at hl 18 rfl) ?_
        refine lv_if_eq (tgt := 312) hx hb dL_law_303 (by decide) (fun c0 => ((absurd c0 (by decide) : False)).elim) (fun _ => ?_)
        refine lv_sipush (v := (-2003)) hx hb dL_law_306 (by decide) ?_
        refine lv_goto (tgt := 314) hx hb dL_law_309 (by decide) ?_
        refine lv_icmp_ne (tgt := 321) hx hb dL_law_314 (by decide) (fun c0 => (c0 rfl).elim) (fun _ => ?_)
        refine lv_iconst (v := 1) hx hb dL_law_317 (by decide) ?_
        refine lv_goto (tgt := 322) hx hb dL_law_318 (by decide) ?_
        refine lv_istore_n (lv' := [(3, .int 1), (18, .int (-2003)), (0, .ref b), (1, .ref (X 0)), (2, .int (nI n)), (4, .int (nI many)), (5, .ref g0), (6, .ref e0), (7, .ref t0), (8, .int (nI ne)), (9, .int 0), (10, .int 0), (11, .int a5), (12, .int a6), (13, .int (nI k)), (14, .int (nI (300 + 5 * k))), (15, .int (nI pr)), (16, .int (nI 0)), (17, .int 1)]) hx hb dL_law_322 rfl hl (by decide) rfl (fun ls hl => ?_)
        refine lv_iload hx hb dL_law_323 (lv_at hl 1 rfl) ?_
        refine lv_if_lt (tgt := 338) hx hb dL_law_325 (by decide) (fun _ => ?_) (fun c0 => (c0 (by decide)).elim)
        refine lv_goto (tgt := 606) hx hb dL_law_338 (by decide) ?_
        have hl : lv_has ls 21 [(0, .ref b), (1, .ref (X 0)), (2, .int (nI n)), (3, .int 1), (4, .int (nI many)), (5, .ref g0), (6, .ref e0), (7, .ref t0), (8, .int (nI ne)), (9, .int 0), (10, .int 0), (11, .int a5), (12, .int a6), (13, .int (nI k))] := lv_sub hl [2, 3, 4, 0, 5, 6, 7, 8, 9, 10, 11, 12, 13, 14] rfl
        refine W.widen (k := 1010 + 4000 * k) (n := 20100 + 24000 * k) (by omega) (by omega) ?_
        exact KK ne x ea es ef a5 a6 hn kn on cu pu gw b_1 b_2 b_3 b_p su po hds kr kv kb oa ob an ch cg fb mh ml ih lb ic cn c1 c2 c3 c4 c5 c6 wn w1 w2 w3 w4 w5 w6 ac obi sc br ai ao nn kp se co hxa hxf hch (by omega) hef h5 h6 hds5 hwi hwo hst (fun h9 => hkp (by omega)) H locs ls hP hD hS hl
    · rw [hw] at hl
      have hne0 : ne = 0 := by omega
      refine lv_iload hx hb dL_law_278 (lv_at hl 16 rfl) ?_
      refine lv_if_ne (tgt := 341) hx hb dL_law_280 (by decide) (fun _ => ?_) (fun c0 => ((absurd c0 (by decide) : False)).elim)
      refine lv_iload hx hb dL_law_341 (lv_at hl 16 rfl) ?_
      refine lv_iconst (v := 3) hx hb dL_law_343 (by decide) ?_
      refine lv_icmp_ge (tgt := 452) hx hb dL_law_344 (by decide) (fun c0 => ((absurd c0 (by decide) : False)).elim) (fun _ => ?_)
      refine lv_iload hx hb dL_law_347 (lv_at hl 8 rfl) ?_
      refine lv_if_le (tgt := 452) hx hb dL_law_349 (by decide) (fun _ => ?_) (fun c0 => (c0 (by rw [hne0]; decide)).elim)
      refine lv_iload hx hb dL_law_452 (lv_at hl 16 rfl) ?_
      refine lv_iconst (v := 3) hx hb dL_law_454 (by decide) ?_
      refine lv_icmp_ne (tgt := 566) hx hb dL_law_455 (by decide) (fun _ => ?_) (fun c0 => ((absurd c0 (by decide) : False)).elim)
      refine lv_iload hx hb dL_law_566 (lv_at hl 16 rfl) ?_
      refine lv_iconst (v := 4) hx hb dL_law_568 (by decide) ?_
      refine lv_icmp_ne (tgt := 606) hx hb dL_law_569 (by decide) (fun _ => ?_) (fun c0 => ((absurd c0 (by decide) : False)).elim)
      have hl : lv_has ls 21 [(0, .ref b), (1, .ref (X 0)), (2, .int (nI n)), (3, .int 1), (4, .int (nI many)), (5, .ref g0), (6, .ref e0), (7, .ref t0), (8, .int (nI ne)), (9, .int 0), (10, .int 0), (11, .int a5), (12, .int a6), (13, .int (nI k))] := lv_sub hl [0, 1, 2, 3, 4, 5, 6, 7, 8, 9, 10, 11, 12, 13] rfl
      refine W.widen (k := 1010 + 4000 * k) (n := 20100 + 24000 * k) (by omega) (by omega) ?_
      exact KK ne x ea es ef a5 a6 hn kn on cu pu gw b_1 b_2 b_3 b_p su po hds kr kv kb oa ob an ch cg fb mh ml ih lb ic cn c1 c2 c3 c4 c5 c6 wn w1 w2 w3 w4 w5 w6 ac obi sc br ai ao nn kp se co hxa hxf hch (by omega) hef h5 h6 hds5 hwi hwo hst (fun h9 => hkp (by omega)) H locs ls hP hD hS hl
    · rw [hw] at hl
      refine lv_iload hx hb dL_law_278 (lv_at hl 16 rfl) ?_
      refine lv_if_ne (tgt := 341) hx hb dL_law_280 (by decide) (fun _ => ?_) (fun c0 => ((absurd c0 (by decide) : False)).elim)
      refine lv_iload hx hb dL_law_341 (lv_at hl 16 rfl) ?_
      refine lv_iconst (v := 3) hx hb dL_law_343 (by decide) ?_
      refine lv_icmp_ge (tgt := 452) hx hb dL_law_344 (by decide) (fun _ => ?_) (fun c0 => (c0 (by decide)).elim)
      refine lv_iload hx hb dL_law_452 (lv_at hl 16 rfl) ?_
      refine lv_iconst (v := 3) hx hb dL_law_454 (by decide) ?_
      refine lv_icmp_ne (tgt := 566) hx hb dL_law_455 (by decide) (fun c0 => (c0 rfl).elim) (fun _ => ?_)
      refine lv_aload_n hx hb dL_law_458 rfl (lv_at hl 0 rfl) ?_
      refine lv_iload hx hb dL_law_459 (lv_at hl 14 rfl) ?_
      refine lv_iconst (v := 2) hx hb dL_law_461 (by decide) ?_
      refine lv_iadd hx hb dL_law_462 ?_
      refine lv_topi (nm_r (e' := nI (300 + 5 * k + 2)) (nI_add _ 2) ?_)
      refine lv_iconst (v := 2) hx hb dL_law_463 (by decide) ?_
      obtain ⟨v2, h_v2, e_v2⟩ := pick_lt L xs (nI (300 + 5 * k + 2)) (m := 2) (by omega) (by omega)
      refine wq_iQW (ws := (wB ty X g0 e0 (nI n) (nI many) 1 (nI ne) pl rf tp tq ea es hn kn on cu pu gw b_1 b_2 b_3 b_p su po hds kr kv kb oa ob an ch cg fb mh ml ih lb ic cn c1 c2 c3 c4 c5 c6 wn w1 w2 w3 w4 w5 w6 ac obi sc br ai ao nn kp se co (nI many).toNatClampNeg gf ef t0 tf)) (pl := (pw ty pp)) (wc := []) (va_runS (As := [.ref b, .int (nI (300 + 5 * k + 2)), .int 2]) (rest := []) ⟨hx, hb, hml, hown, hts⟩ (k_L_pick l D ty td mi H.size L xs b (nI (300 + 5 * k + 2)) (nI 2) (kI_nn (by omega)) (by decide) hL (nI v2) e_v2.symm) (va_cwS 3 hts gw_pick rfl rfl rfl (by decide +kernel) ⟨(Nat.le_of_ble_eq_true rfl), (Nat.le_of_ble_eq_true rfl)⟩) (wq_preSS (wm_preS (vP_left hP) (vD_left hD) hK hE hS hA [] rfl) hX hbl hbA hS (wm_free (vD_left hD) hS hA [] rfl)) rfl rfl hl.1 rfl (lv_room (Nat.le_of_ble_eq_true rfl)) dL_law_464 ⟨(by show 1000 + 4000 * k + 0 ≤ 600258; omega), (by show 20000 + 24000 * k + 0 ≤ 7292074; omega)⟩) hS hA hP hD [] rfl (fun _ _ h => by rcases h with ⟨-, rfl⟩; rfl) (fun rr u H locs hw hP hD hS => ?_)
      obtain ⟨rfl, rfl⟩ := hw
      have hP : va_P D vwCl ((wB ty X g0 e0 (nI n) (nI many) 1 (nI ne) pl rf tp tq ea es hn kn on cu pu gw b_1 b_2 b_3 b_p su po hds kr kv kb oa ob an ch cg fb mh ml ih lb ic cn c1 c2 c3 c4 c5 c6 wn w1 w2 w3 w4 w5 w6 ac obi sc br ai ao nn kp se co (nI many).toNatClampNeg gf ef t0 tf) ++ (pw ty pp)) H := hP
      have hD : va_D A ((wB ty X g0 e0 (nI n) (nI many) 1 (nI ne) pl rf tp tq ea es hn kn on cu pu gw b_1 b_2 b_3 b_p su po hds kr kv kb oa ob an ch cg fb mh ml ih lb ic cn c1 c2 c3 c4 c5 c6 wn w1 w2 w3 w4 w5 w6 ac obi sc br ai ao nn kp se co (nI many).toNatClampNeg gf ef t0 tf) ++ (pw ty pp)) := hD
      refine W.widen (k := 1000 + 4000 * k) (n := 20000 + 24000 * k) (by omega) (by omega) ?_
      by_cases hw2 : v2 = 0
      · refine lv_if_ne (tgt := 474) hx hb dL_law_467 (by decide) (fun c0 => (c0 (by rw [hw2]; rfl)).elim) (fun _ => ?_)
        refine lv_iconst (v := 1) hx hb dL_law_470 (by decide) ?_
        refine lv_goto (tgt := 475) hx hb dL_law_471 (by decide) ?_
        refine lv_istore (lv' := [(18, .int 1), (0, .ref b), (1, .ref (X 0)), (2, .int (nI n)), (3, .int 1), (4, .int (nI many)), (5, .ref g0), (6, .ref e0), (7, .ref t0), (8, .int (nI ne)), (9, .int 0), (10, .int 0), (11, .int a5), (12, .int a6), (13, .int (nI k)), (14, .int (nI (300 + 5 * k))), (15, .int (nI pr)), (16, .int (nI 3)), (17, .int fl)]) hx hb dL_law_475 hl (by decide) rfl (fun ls hl => ?_)
        refine lv_iload hx hb dL_law_477 (lv_at hl 0 rfl) ?_
        refine lv_if_eq (tgt := 492) hx hb dL_law_479 (by decide) (fun c0 => ((absurd c0 (by decide) : False)).elim) (fun _ => ?_)
        refine lv_iload hx hb dL_law_482 (lv_at hl 12 rfl) ?_
        refine lv_iconst (v := 1) hx hb dL_law_484 (by decide) ?_
        refine lv_iload hx hb dL_law_485 (lv_at hl 16 rfl) ?_
        refine lv_ishl hx hb dL_law_487 ?_
        refine lv_ior hx hb dL_law_488 ?_
        refine lv_goto (tgt := 501) hx hb dL_law_489 (by decide) ?_
        refine lv_istore (lv' := [(11, .int (a5 ||| ((1 : Int32) <<< ((nI pr) &&& 31)))), (18, .int 1), (0, .ref b), (1, .ref (X 0)), (2, .int (nI n)), (3, .int 1), (4, .int (nI many)), (5, .ref g0), (6, .ref e0), (7, .ref t0), (8, .int (nI ne)), (9, .int 0), (10, .int 0), (12, .int a6), (13, .int (nI k)), (14, .int (nI (300 + 5 * k))), (15, .int (nI pr)), (16, .int (nI 3)), (17, .int fl)]) hx hb dL_law_501 hl (by decide) rfl (fun ls hl => ?_)
        refine lv_iload hx hb dL_law_503 (lv_at hl 1 rfl) ?_
        refine lv_if_eq (tgt := 520) hx hb dL_law_505 (by decide) (fun c0 => ((absurd c0 (by decide) : False)).elim) (fun _ => ?_)
        refine lv_iload hx hb dL_law_508 (lv_at hl 13 rfl) ?_
        refine lv_iconst (v := 1) hx hb dL_law_510 (by decide) ?_
        refine lv_iload hx hb dL_law_511 (lv_at hl 16 rfl) ?_
        refine lv_ishl hx hb dL_law_513 ?_
        refine lv_iconst (v := (-1)) hx hb dL_law_514 (by decide) ?_
        refine lv_ixor hx hb dL_law_515 ?_
        refine lv_iand hx hb dL_law_516 ?_
        refine lv_goto (tgt := 527) hx hb dL_law_517 (by decide) ?_
        refine lv_istore (lv' := [(12, .int (a6 &&& (((1 : Int32) <<< ((nI pr) &&& 31)) ^^^ (-1)))), (11, .int (a5 ||| ((1 : Int32) <<< ((nI pr) &&& 31)))), (18, .int 1), (0, .ref b), (1, .ref (X 0)), (2, .int (nI n)), (3, .int 1), (4, .int (nI many)), (5, .ref g0), (6, .ref e0), (7, .ref t0), (8, .int (nI ne)), (9, .int 0), (10, .int 0), (13, .int (nI k)), (14, .int (nI (300 + 5 * k))), (15, .int (nI pr)), (16, .int (nI 3)), (17, .int fl)]) hx hb dL_law_527 hl (by decide) rfl (fun ls hl => ?_)
        refine lv_aload_n hx hb dL_law_529 rfl (lv_at hl 4 rfl) ?_
        refine lv_bipush (v := 11) hx hb dL_law_530 (by decide) ?_
        refine lv_iload hx hb dL_law_532 (lv_at hl 16 rfl) ?_
        refine lv_iconst (v := (-1)) hx hb dL_law_534 (by decide) ?_
        refine lv_bipush (v := 8) hx hb dL_law_535 (by decide) ?_
        refine lv_iload hx hb dL_law_537 (lv_at hl 2 rfl) ?_
        refine wq_iQW (ws := (wB ty X g0 e0 (nI n) (nI many) 1 (nI ne) pl rf tp tq ea es hn kn on cu pu gw b_1 b_2 b_3 b_p su po hds kr kv kb oa ob an ch cg fb mh ml ih lb ic cn c1 c2 c3 c4 c5 c6 wn w1 w2 w3 w4 w5 w6 ac obi sc br ai ao nn kp se co (nI many).toNatClampNeg gf ef t0 tf)) (pl := (pw ty pp)) (wc := []) (va_runS (As := [.int 1]) (rest := [.int 8, .int (-1), .int (nI pr), .int 11, .ref (X 0)]) ⟨hx, hb, hml, hown, hts⟩ (k_L_told l D ty td mi H.size 1 1 told_1.symm) (va_cwS 1 hts gw_told rfl rfl rfl (by decide +kernel) ⟨(Nat.le_of_ble_eq_true rfl), (Nat.le_of_ble_eq_true rfl)⟩) (wm_preS (vP_left hP) (vD_left hD) hK hE hS hA [] rfl) rfl rfl hl.1 rfl (lv_room (Nat.le_of_ble_eq_true rfl)) dL_law_539 ⟨(by show 1000 + 4000 * k + 0 ≤ 600258; omega), (by show 20000 + 24000 * k + 0 ≤ 7292074; omega)⟩) hS hA hP hD [] rfl (fun _ _ h => by rcases h with ⟨-, rfl⟩; rfl) (fun rr u H locs hw hP hD hS => ?_)
        obtain ⟨rfl, rfl⟩ := hw
        have hP : va_P D vwCl ((wB ty X g0 e0 (nI n) (nI many) 1 (nI ne) pl rf tp tq ea es hn kn on cu pu gw b_1 b_2 b_3 b_p su po hds kr kv kb oa ob an ch cg fb mh ml ih lb ic cn c1 c2 c3 c4 c5 c6 wn w1 w2 w3 w4 w5 w6 ac obi sc br ai ao nn kp se co (nI many).toNatClampNeg gf ef t0 tf) ++ (pw ty pp)) H := hP
        have hD : va_D A ((wB ty X g0 e0 (nI n) (nI many) 1 (nI ne) pl rf tp tq ea es hn kn on cu pu gw b_1 b_2 b_3 b_p su po hds kr kv kb oa ob an ch cg fb mh ml ih lb ic cn c1 c2 c3 c4 c5 c6 wn w1 w2 w3 w4 w5 w6 ac obi sc br ai ao nn kp se co (nI many).toNatClampNeg gf ef t0 tf) ++ (pw ty pp)) := hD
        refine W.widen (k := 1000 + 4000 * k) (n := 20000 + 24000 * k) (by omega) (by omega) ?_
        refine lv_iconst (v := 0) hx hb dL_law_542 (by decide) ?_
        obtain ⟨ai1, ao1, e11, hwi1, hwo1⟩ := e_assume1 hwi hwo hn6 h_pr (hpl pr h_pr) kp (-1) 8
        have s5 : sm (a5 ||| (1 : Int32) <<< (nI pr &&& 31)) := sm_or h5 (sm_one (by omega))
        have s6 : sm (a6 &&& ((1 : Int32) <<< (nI pr &&& 31) ^^^ (-1))) := sm_and h6
        have d56 : dis (a5 ||| (1 : Int32) <<< (nI pr &&& 31)) (a6 &&& ((1 : Int32) <<< (nI pr &&& 31) ^^^ (-1))) := dis_in h5 hds5 (by omega)
        refine wq_xiQW (ws := (wB ty X g0 e0 (nI n) (nI many) 1 (nI ne) pl rf tp tq ea es hn kn on cu pu gw b_1 b_2 b_3 b_p su po hds kr kv kb oa ob an ch cg fb mh ml ih lb ic cn c1 c2 c3 c4 c5 c6 wn w1 w2 w3 w4 w5 w6 ac obi sc br ai ao nn kp se co (nI many).toNatClampNeg gf ef t0 tf)) (pl := (pw ty pp)) (wc := (wW_k_L_deed_11 ty X (nI n) (nI many) 1 (nI ne) pl ai ao nn kp)) (vx_runSX (As := [.ref (X 0), .int 11, .int (nI pr), .int (-1), .int 8, .int 1, .int 0]) (rest := []) ⟨hx, hb, hml, hown, hts⟩ (k_L_deed_11 l hl9 D ty td mi H.size X (nI n) (nI many) 1 (nI ne) pl ai ao nn kp (nI pr) (-1) 8 1 0 (nI (cnB (a5 ||| (1 : Int32) <<< (nI pr &&& 31)) + cnB (a6 &&& ((1 : Int32) <<< (nI pr &&& 31) ^^^ (-1)))), ai1, ao1, 0) e11.symm) (vx_cwSW 7 hts gw_deed_11 rfl rfl rfl (by decide +kernel) ⟨(Nat.le_of_ble_eq_true rfl), (Nat.le_of_ble_eq_true rfl)⟩) (wm_preS (vP_left hP) (vD_left hD) hK hE hS hA [true, true, true, false, false, false, false, false, false, false, false, false, false, false, false, false, false, false, false, false, false, false, false, false, false, false, false, false, false, false, false, false, false, false, false, false, false, false, false, true, true, true, true, true] rfl) rfl rfl hl.1 rfl (lv_room (Nat.le_of_ble_eq_true rfl)) dL_law_543 ⟨(by show 1000 + 4000 * k + 1 ≤ 600258; omega), (by show 20000 + 24000 * k + 6 ≤ 7292074; omega)⟩) hS hA hP hD [true, true, true, false, false, false, false, false, false, false, false, false, false, false, false, false, false, false, false, false, false, false, false, false, false, false, false, false, false, false, false, false, false, false, false, false, false, false, false, true, true, true, true, true] rfl (fun _ _ h => by rcases h with ⟨-, rfl⟩; rfl) (fun _ _ h => h.elim) (fun E9 u H locs q9 ce hw hP hD hS hce hcv hcl => hw.elim) (fun rr u H locs hw hP hD hS => ?_)
        obtain ⟨rfl, rfl⟩ := hw
        have hP : va_P D vwCl ((wB ty X g0 e0 (nI n) (nI many) 1 (nI ne) pl rf tp tq ea es hn kn on cu pu gw b_1 b_2 b_3 b_p su po hds kr kv kb oa ob an ch cg fb mh ml ih lb ic cn c1 c2 c3 c4 c5 c6 wn w1 w2 w3 w4 w5 w6 ac obi sc br ai1 ao1 nn 0 se co (nI many).toNatClampNeg gf ef t0 tf) ++ (pw ty pp)) H := hP
        have hD : va_D A ((wB ty X g0 e0 (nI n) (nI many) 1 (nI ne) pl rf tp tq ea es hn kn on cu pu gw b_1 b_2 b_3 b_p su po hds kr kv kb oa ob an ch cg fb mh ml ih lb ic cn c1 c2 c3 c4 c5 c6 wn w1 w2 w3 w4 w5 w6 ac obi sc br ai1 ao1 nn 0 se co (nI many).toNatClampNeg gf ef t0 tf) ++ (pw ty pp)) := hD
        refine W.widen (k := 1001 + 4000 * k) (n := 20006 + 24000 * k) (by omega) (by omega) ?_
        refine lv_iload hx hb dL_law_546 (lv_at hl 1 rfl) ?_
        refine lv_iload hx hb dL_law_548 (lv_at hl 0 rfl) ?_
        refine lv_ior hx hb dL_law_550 ?_
        refine wq_iQW (ws := (wB ty X g0 e0 (nI n) (nI many) 1 (nI ne) pl rf tp tq ea es hn kn on cu pu gw b_1 b_2 b_3 b_p su po hds kr kv kb oa ob an ch cg fb mh ml ih lb ic cn c1 c2 c3 c4 c5 c6 wn w1 w2 w3 w4 w5 w6 ac obi sc br ai1 ao1 nn 0 se co (nI many).toNatClampNeg gf ef t0 tf)) (pl := (pw ty pp)) (wc := []) (va_runS (As := [.int ((a5 ||| ((1 : Int32) <<< ((nI pr) &&& 31))) ||| (a6 &&& (((1 : Int32) <<< ((nI pr) &&& 31)) ^^^ (-1))))]) (rest := [.int (nI (cnB (a5 ||| (1 : Int32) <<< (nI pr &&& 31)) + cnB (a6 &&& ((1 : Int32) <<< (nI pr &&& 31) ^^^ (-1)))))]) ⟨hx, hb, hml, hown, hts⟩ (k_J6_bitCount_0f7a4 l D ty td mi H.size ((a5 ||| ((1 : Int32) <<< ((nI pr) &&& 31))) ||| (a6 &&& (((1 : Int32) <<< ((nI pr) &&& 31)) ^^^ (-1)))) (nI (cnB (a5 ||| (1 : Int32) <<< (nI pr &&& 31)) + cnB (a6 &&& ((1 : Int32) <<< (nI pr &&& 31) ^^^ (-1))))) (bc_dis s5 s6 d56)) (va_cwS 1 hts gw_bitCount rfl rfl rfl (by decide +kernel) ⟨(Nat.le_of_ble_eq_true rfl), (Nat.le_of_ble_eq_true rfl)⟩) (wm_preS (vP_left hP) (vD_left hD) hK hE hS hA [] rfl) rfl rfl hl.1 rfl (lv_room (Nat.le_of_ble_eq_true rfl)) dL_law_551 ⟨(by show 1001 + 4000 * k + 0 ≤ 600258; omega), (by show 20006 + 24000 * k + 0 ≤ 7292074; omega)⟩) hS hA hP hD [] rfl (fun _ _ h => by rcases h with ⟨-, rfl⟩; rfl) (fun rr u H locs hw hP hD hS => ?_)
        obtain ⟨rfl, rfl⟩ := hw
        have hP : va_P D vwCl ((wB ty X g0 e0 (nI n) (nI many) 1 (nI ne) pl rf tp tq ea es hn kn on cu pu gw b_1 b_2 b_3 b_p su po hds kr kv kb oa ob an ch cg fb mh ml ih lb ic cn c1 c2 c3 c4 c5 c6 wn w1 w2 w3 w4 w5 w6 ac obi sc br ai1 ao1 nn 0 se co (nI many).toNatClampNeg gf ef t0 tf) ++ (pw ty pp)) H := hP
        have hD : va_D A ((wB ty X g0 e0 (nI n) (nI many) 1 (nI ne) pl rf tp tq ea es hn kn on cu pu gw b_1 b_2 b_3 b_p su po hds kr kv kb oa ob an ch cg fb mh ml ih lb ic cn c1 c2 c3 c4 c5 c6 wn w1 w2 w3 w4 w5 w6 ac obi sc br ai1 ao1 nn 0 se co (nI many).toNatClampNeg gf ef t0 tf) ++ (pw ty pp)) := hD
        refine W.widen (k := 1001 + 4000 * k) (n := 20006 + 24000 * k) (by omega) (by omega) ?_
        refine lv_icmp_ne (tgt := 561) hx hb dL_law_554 (by decide) (fun c0 => (c0 rfl).elim) (fun _ => ?_)
        refine lv_iconst (v := 1) hx hb dL_law_557 (by decide) ?_
        refine lv_goto (tgt := 562) hx hb dL_law_558 (by decide) ?_
        refine lv_istore_n (lv' := [(3, .int 1), (12, .int (a6 &&& (((1 : Int32) <<< ((nI pr) &&& 31)) ^^^ (-1)))), (11, .int (a5 ||| ((1 : Int32) <<< ((nI pr) &&& 31)))), (18, .int 1), (0, .ref b), (1, .ref (X 0)), (2, .int (nI n)), (4, .int (nI many)), (5, .ref g0), (6, .ref e0), (7, .ref t0), (8, .int (nI ne)), (9, .int 0), (10, .int 0), (13, .int (nI k)), (14, .int (nI (300 + 5 * k))), (15, .int (nI pr)), (16, .int (nI 3)), (17, .int fl)]) hx hb dL_law_562 rfl hl (by decide) rfl (fun ls hl => ?_)
        refine lv_goto (tgt := 606) hx hb dL_law_563 (by decide) ?_
        have hl : lv_has ls 21 [(0, .ref b), (1, .ref (X 0)), (2, .int (nI n)), (3, .int 1), (4, .int (nI many)), (5, .ref g0), (6, .ref e0), (7, .ref t0), (8, .int (nI ne)), (9, .int 0), (10, .int 0), (11, .int (a5 ||| ((1 : Int32) <<< ((nI pr) &&& 31)))), (12, .int (a6 &&& (((1 : Int32) <<< ((nI pr) &&& 31)) ^^^ (-1)))), (13, .int (nI k))] := lv_sub hl [4, 5, 6, 0, 7, 8, 9, 10, 11, 12, 13, 2, 1, 14] rfl
        refine W.widen (k := 1010 + 4000 * k) (n := 20100 + 24000 * k) (by omega) (by omega) ?_
        exact KK ne x ea es ef (a5 ||| (1 : Int32) <<< (nI pr &&& 31)) (a6 &&& ((1 : Int32) <<< (nI pr &&& 31) ^^^ (-1))) hn kn on cu pu gw b_1 b_2 b_3 b_p su po hds kr kv kb oa ob an ch cg fb mh ml ih lb ic cn c1 c2 c3 c4 c5 c6 wn w1 w2 w3 w4 w5 w6 ac obi sc br ai1 ao1 nn 0 se co hxa hxf hch (by omega) hef s5 s6 d56 hwi1 hwo1 (lkS_kp hst) (fun _ => rfl) H locs ls hP hD hS hl
      · refine lv_if_ne (tgt := 474) hx hb dL_law_467 (by decide) (fun _ => ?_) (fun c0 => (hw2 ((kI_eq (a := v2) (b := 0) (by omega) (by omega)).mp c0)).elim)
        refine lv_iconst (v := 0) hx hb dL_law_474 (by decide) ?_
        refine lv_istore (lv' := [(18, .int 0), (0, .ref b), (1, .ref (X 0)), (2, .int (nI n)), (3, .int 1), (4, .int (nI many)), (5, .ref g0), (6, .ref e0), (7, .ref t0), (8, .int (nI ne)), (9, .int 0), (10, .int 0), (11, .int a5), (12, .int a6), (13, .int (nI k)), (14, .int (nI (300 + 5 * k))), (15, .int (nI pr)), (16, .int (nI 3)), (17, .int fl)]) hx hb dL_law_475 hl (by decide) rfl (fun ls hl => ?_)
        refine lv_iload hx hb dL_law_477 (lv_at hl 0 rfl) ?_
        refine lv_if_eq (tgt := 492) hx hb dL_law_479 (by decide) (fun _ => ?_) (fun c0 => (c0 rfl).elim)
        refine lv_iload hx hb dL_law_492 (lv_at hl 12 rfl) ?_
        refine lv_iconst (v := 1) hx hb dL_law_494 (by decide) ?_
        refine lv_iload hx hb dL_law_495 (lv_at hl 16 rfl) ?_
        refine lv_ishl hx hb dL_law_497 ?_
        refine lv_iconst (v := (-1)) hx hb dL_law_498 (by decide) ?_
        refine lv_ixor hx hb dL_law_499 ?_
        refine lv_iand hx hb dL_law_500 ?_
        refine lv_istore (lv' := [(11, .int (a5 &&& (((1 : Int32) <<< ((nI pr) &&& 31)) ^^^ (-1)))), (18, .int 0), (0, .ref b), (1, .ref (X 0)), (2, .int (nI n)), (3, .int 1), (4, .int (nI many)), (5, .ref g0), (6, .ref e0), (7, .ref t0), (8, .int (nI ne)), (9, .int 0), (10, .int 0), (12, .int a6), (13, .int (nI k)), (14, .int (nI (300 + 5 * k))), (15, .int (nI pr)), (16, .int (nI 3)), (17, .int fl)]) hx hb dL_law_501 hl (by decide) rfl (fun ls hl => ?_)
        refine lv_iload hx hb dL_law_503 (lv_at hl 1 rfl) ?_
        refine lv_if_eq (tgt := 520) hx hb dL_law_505 (by decide) (fun _ => ?_) (fun c0 => (c0 rfl).elim)
        refine lv_iload hx hb dL_law_520 (lv_at hl 13 rfl) ?_
        refine lv_iconst (v := 1) hx hb dL_law_522 (by decide) ?_
        refine lv_iload hx hb dL_law_523 (lv_at hl 16 rfl) ?_
        refine lv_ishl hx hb dL_law_525 ?_
        refine lv_ior hx hb dL_law_526 ?_
        refine lv_istore (lv' := [(12, .int (a6 ||| ((1 : Int32) <<< ((nI pr) &&& 31)))), (11, .int (a5 &&& (((1 : Int32) <<< ((nI pr) &&& 31)) ^^^ (-1)))), (18, .int 0), (0, .ref b), (1, .ref (X 0)), (2, .int (nI n)), (3, .int 1), (4, .int (nI many)), (5, .ref g0), (6, .ref e0), (7, .ref t0), (8, .int (nI ne)), (9, .int 0), (10, .int 0), (13, .int (nI k)), (14, .int (nI (300 + 5 * k))), (15, .int (nI pr)), (16, .int (nI 3)), (17, .int fl)]) hx hb dL_law_527 hl (by decide) rfl (fun ls hl => ?_)
        refine lv_aload_n hx hb dL_law_529 rfl (lv_at hl 4 rfl) ?_
        refine lv_bipush (v := 11) hx hb dL_law_530 (by decide) ?_
        refine lv_iload hx hb dL_law_532 (lv_at hl 16 rfl) ?_
        refine lv_iconst (v := (-1)) hx hb dL_law_534 (by decide) ?_
        refine lv_bipush (v := 8) hx hb dL_law_535 (by decide) ?_
        refine lv_iload hx hb dL_law_537 (lv_at hl 2 rfl) ?_
        refine wq_iQW (ws := (wB ty X g0 e0 (nI n) (nI many) 1 (nI ne) pl rf tp tq ea es hn kn on cu pu gw b_1 b_2 b_3 b_p su po hds kr kv kb oa ob an ch cg fb mh ml ih lb ic cn c1 c2 c3 c4 c5 c6 wn w1 w2 w3 w4 w5 w6 ac obi sc br ai ao nn kp se co (nI many).toNatClampNeg gf ef t0 tf)) (pl := (pw ty pp)) (wc := []) (va_runS (As := [.int 0]) (rest := [.int 8, .int (-1), .int (nI pr), .int 11, .ref (X 0)]) ⟨hx, hb, hml, hown, hts⟩ (k_L_told l D ty td mi H.size 0 0 told_0.symm) (va_cwS 1 hts gw_told rfl rfl rfl (by decide +kernel) ⟨(Nat.le_of_ble_eq_true rfl), (Nat.le_of_ble_eq_true rfl)⟩) (wm_preS (vP_left hP) (vD_left hD) hK hE hS hA [] rfl) rfl rfl hl.1 rfl (lv_room (Nat.le_of_ble_eq_true rfl)) dL_law_539 ⟨(by show 1000 + 4000 * k + 0 ≤ 600258; omega), (by show 20000 + 24000 * k + 0 ≤ 7292074; omega)⟩) hS hA hP hD [] rfl (fun _ _ h => by rcases h with ⟨-, rfl⟩; rfl) (fun rr u H locs hw hP hD hS => ?_)
        obtain ⟨rfl, rfl⟩ := hw
        have hP : va_P D vwCl ((wB ty X g0 e0 (nI n) (nI many) 1 (nI ne) pl rf tp tq ea es hn kn on cu pu gw b_1 b_2 b_3 b_p su po hds kr kv kb oa ob an ch cg fb mh ml ih lb ic cn c1 c2 c3 c4 c5 c6 wn w1 w2 w3 w4 w5 w6 ac obi sc br ai ao nn kp se co (nI many).toNatClampNeg gf ef t0 tf) ++ (pw ty pp)) H := hP
        have hD : va_D A ((wB ty X g0 e0 (nI n) (nI many) 1 (nI ne) pl rf tp tq ea es hn kn on cu pu gw b_1 b_2 b_3 b_p su po hds kr kv kb oa ob an ch cg fb mh ml ih lb ic cn c1 c2 c3 c4 c5 c6 wn w1 w2 w3 w4 w5 w6 ac obi sc br ai ao nn kp se co (nI many).toNatClampNeg gf ef t0 tf) ++ (pw ty pp)) := hD
        refine W.widen (k := 1000 + 4000 * k) (n := 20000 + 24000 * k) (by omega) (by omega) ?_
        refine lv_iconst (v := 0) hx hb dL_law_542 (by decide) ?_
        obtain ⟨ai1, ao1, e11, hwi1, hwo1⟩ := e_assume0 hwi hwo hn6 h_pr (hpl pr h_pr) kp (-1) 8
        have s5 : sm (a5 &&& ((1 : Int32) <<< (nI pr &&& 31) ^^^ (-1))) := sm_and h5
        have s6 : sm (a6 ||| (1 : Int32) <<< (nI pr &&& 31)) := sm_or h6 (sm_one (by omega))
        have d56 : dis (a5 &&& ((1 : Int32) <<< (nI pr &&& 31) ^^^ (-1))) (a6 ||| (1 : Int32) <<< (nI pr &&& 31)) := dis_out h5 hds5 (by omega)
        refine wq_xiQW (ws := (wB ty X g0 e0 (nI n) (nI many) 1 (nI ne) pl rf tp tq ea es hn kn on cu pu gw b_1 b_2 b_3 b_p su po hds kr kv kb oa ob an ch cg fb mh ml ih lb ic cn c1 c2 c3 c4 c5 c6 wn w1 w2 w3 w4 w5 w6 ac obi sc br ai ao nn kp se co (nI many).toNatClampNeg gf ef t0 tf)) (pl := (pw ty pp)) (wc := (wW_k_L_deed_11 ty X (nI n) (nI many) 1 (nI ne) pl ai ao nn kp)) (vx_runSX (As := [.ref (X 0), .int 11, .int (nI pr), .int (-1), .int 8, .int 0, .int 0]) (rest := []) ⟨hx, hb, hml, hown, hts⟩ (k_L_deed_11 l hl9 D ty td mi H.size X (nI n) (nI many) 1 (nI ne) pl ai ao nn kp (nI pr) (-1) 8 0 0 (nI (cnB (a5 &&& ((1 : Int32) <<< (nI pr &&& 31) ^^^ (-1))) + cnB (a6 ||| (1 : Int32) <<< (nI pr &&& 31))), ai1, ao1, 0) e11.symm) (vx_cwSW 7 hts gw_deed_11 rfl rfl rfl (by decide +kernel) ⟨(Nat.le_of_ble_eq_true rfl), (Nat.le_of_ble_eq_true rfl)⟩) (wm_preS (vP_left hP) (vD_left hD) hK hE hS hA [true, true, true, false, false, false, false, false, false, false, false, false, false, false, false, false, false, false, false, false, false, false, false, false, false, false, false, false, false, false, false, false, false, false, false, false, false, false, false, true, true, true, true, true] rfl) rfl rfl hl.1 rfl (lv_room (Nat.le_of_ble_eq_true rfl)) dL_law_543 ⟨(by show 1000 + 4000 * k + 1 ≤ 600258; omega), (by show 20000 + 24000 * k + 6 ≤ 7292074; omega)⟩) hS hA hP hD [true, true, true, false, false, false, false, false, false, false, false, false, false, false, false, false, false, false, false, false, false, false, false, false, false, false, false, false, false, false, false, false, false, false, false, false, false, false, false, true, true, true, true, true] rfl (fun _ _ h => by rcases h with ⟨-, rfl⟩; rfl) (fun _ _ h => h.elim) (fun E9 u H locs q9 ce hw hP hD hS hce hcv hcl => hw.elim) (fun rr u H locs hw hP hD hS => ?_)
        obtain ⟨rfl, rfl⟩ := hw
        have hP : va_P D vwCl ((wB ty X g0 e0 (nI n) (nI many) 1 (nI ne) pl rf tp tq ea es hn kn on cu pu gw b_1 b_2 b_3 b_p su po hds kr kv kb oa ob an ch cg fb mh ml ih lb ic cn c1 c2 c3 c4 c5 c6 wn w1 w2 w3 w4 w5 w6 ac obi sc br ai1 ao1 nn 0 se co (nI many).toNatClampNeg gf ef t0 tf) ++ (pw ty pp)) H := hP
        have hD : va_D A ((wB ty X g0 e0 (nI n) (nI many) 1 (nI ne) pl rf tp tq ea es hn kn on cu pu gw b_1 b_2 b_3 b_p su po hds kr kv kb oa ob an ch cg fb mh ml ih lb ic cn c1 c2 c3 c4 c5 c6 wn w1 w2 w3 w4 w5 w6 ac obi sc br ai1 ao1 nn 0 se co (nI many).toNatClampNeg gf ef t0 tf) ++ (pw ty pp)) := hD
        refine W.widen (k := 1001 + 4000 * k) (n := 20006 + 24000 * k) (by omega) (by omega) ?_
        refine lv_iload hx hb dL_law_546 (lv_at hl 1 rfl) ?_
        refine lv_iload hx hb dL_law_548 (lv_at hl 0 rfl) ?_
        refine lv_ior hx hb dL_law_550 ?_
        refine wq_iQW (ws := (wB ty X g0 e0 (nI n) (nI many) 1 (nI ne) pl rf tp tq ea es hn kn on cu pu gw b_1 b_2 b_3 b_p su po hds kr kv kb oa ob an ch cg fb mh ml ih lb ic cn c1 c2 c3 c4 c5 c6 wn w1 w2 w3 w4 w5 w6 ac obi sc br ai1 ao1 nn 0 se co (nI many).toNatClampNeg gf ef t0 tf)) (pl := (pw ty pp)) (wc := []) (va_runS (As := [.int ((a5 &&& (((1 : Int32) <<< ((nI pr) &&& 31)) ^^^ (-1))) ||| (a6 ||| ((1 : Int32) <<< ((nI pr) &&& 31))))]) (rest := [.int (nI (cnB (a5 &&& ((1 : Int32) <<< (nI pr &&& 31) ^^^ (-1))) + cnB (a6 ||| (1 : Int32) <<< (nI pr &&& 31))))]) ⟨hx, hb, hml, hown, hts⟩ (k_J6_bitCount_0f7a4 l D ty td mi H.size ((a5 &&& (((1 : Int32) <<< ((nI pr) &&& 31)) ^^^ (-1))) ||| (a6 ||| ((1 : Int32) <<< ((nI pr) &&& 31)))) (nI (cnB (a5 &&& ((1 : Int32) <<< (nI pr &&& 31) ^^^ (-1))) + cnB (a6 ||| (1 : Int32) <<< (nI pr &&& 31)))) (bc_dis s5 s6 d56)) (va_cwS 1 hts gw_bitCount rfl rfl rfl (by decide +kernel) ⟨(Nat.le_of_ble_eq_true rfl), (Nat.le_of_ble_eq_true rfl)⟩) (wm_preS (vP_left hP) (vD_left hD) hK hE hS hA [] rfl) rfl rfl hl.1 rfl (lv_room (Nat.le_of_ble_eq_true rfl)) dL_law_551 ⟨(by show 1001 + 4000 * k + 0 ≤ 600258; omega), (by show 20006 + 24000 * k + 0 ≤ 7292074; omega)⟩) hS hA hP hD [] rfl (fun _ _ h => by rcases h with ⟨-, rfl⟩; rfl) (fun rr u H locs hw hP hD hS => ?_)
        obtain ⟨rfl, rfl⟩ := hw
        have hP : va_P D vwCl ((wB ty X g0 e0 (nI n) (nI many) 1 (nI ne) pl rf tp tq ea es hn kn on cu pu gw b_1 b_2 b_3 b_p su po hds kr kv kb oa ob an ch cg fb mh ml ih lb ic cn c1 c2 c3 c4 c5 c6 wn w1 w2 w3 w4 w5 w6 ac obi sc br ai1 ao1 nn 0 se co (nI many).toNatClampNeg gf ef t0 tf) ++ (pw ty pp)) H := hP
        have hD : va_D A ((wB ty X g0 e0 (nI n) (nI many) 1 (nI ne) pl rf tp tq ea es hn kn on cu pu gw b_1 b_2 b_3 b_p su po hds kr kv kb oa ob an ch cg fb mh ml ih lb ic cn c1 c2 c3 c4 c5 c6 wn w1 w2 w3 w4 w5 w6 ac obi sc br ai1 ao1 nn 0 se co (nI many).toNatClampNeg gf ef t0 tf) ++ (pw ty pp)) := hD
        refine W.widen (k := 1001 + 4000 * k) (n := 20006 + 24000 * k) (by omega) (by omega) ?_
        refine lv_icmp_ne (tgt := 561) hx hb dL_law_554 (by decide) (fun c0 => (c0 rfl).elim) (fun _ => ?_)
        refine lv_iconst (v := 1) hx hb dL_law_557 (by decide) ?_
        refine lv_goto (tgt := 562) hx hb dL_law_558 (by decide) ?_
        refine lv_istore_n (lv' := [(3, .int 1), (12, .int (a6 ||| ((1 : Int32) <<< ((nI pr) &&& 31)))), (11, .int (a5 &&& (((1 : Int32) <<< ((nI pr) &&& 31)) ^^^ (-1)))), (18, .int 0), (0, .ref b), (1, .ref (X 0)), (2, .int (nI n)), (4, .int (nI many)), (5, .ref g0), (6, .ref e0), (7, .ref t0), (8, .int (nI ne)), (9, .int 0), (10, .int 0), (13, .int (nI k)), (14, .int (nI (300 + 5 * k))), (15, .int (nI pr)), (16, .int (nI 3)), (17, .int fl)]) hx hb dL_law_562 rfl hl (by decide) rfl (fun ls hl => ?_)
        refine lv_goto (tgt := 606) hx hb dL_law_563 (by decide) ?_
        have hl : lv_has ls 21 [(0, .ref b), (1, .ref (X 0)), (2, .int (nI n)), (3, .int 1), (4, .int (nI many)), (5, .ref g0), (6, .ref e0), (7, .ref t0), (8, .int (nI ne)), (9, .int 0), (10, .int 0), (11, .int (a5 &&& (((1 : Int32) <<< ((nI pr) &&& 31)) ^^^ (-1)))), (12, .int (a6 ||| ((1 : Int32) <<< ((nI pr) &&& 31)))), (13, .int (nI k))] := lv_sub hl [4, 5, 6, 0, 7, 8, 9, 10, 11, 12, 13, 2, 1, 14] rfl
        refine W.widen (k := 1010 + 4000 * k) (n := 20100 + 24000 * k) (by omega) (by omega) ?_
        exact KK ne x ea es ef (a5 &&& ((1 : Int32) <<< (nI pr &&& 31) ^^^ (-1))) (a6 ||| (1 : Int32) <<< (nI pr &&& 31)) hn kn on cu pu gw b_1 b_2 b_3 b_p su po hds kr kv kb oa ob an ch cg fb mh ml ih lb ic cn c1 c2 c3 c4 c5 c6 wn w1 w2 w3 w4 w5 w6 ac obi sc br ai1 ao1 nn 0 se co hxa hxf hch (by omega) hef s5 s6 d56 hwi1 hwo1 (lkS_kp hst) (fun _ => rfl) H locs ls hP hD hS hl
    · rw [hw] at hl
      refine lv_iload hx hb dL_law_278 (lv_at hl 16 rfl) ?_
      refine lv_if_ne (tgt := 341) hx hb dL_law_280 (by decide) (fun _ => ?_) (fun c0 => ((absurd c0 (by decide) : False)).elim)
      refine lv_iload hx hb dL_law_341 (lv_at hl 16 rfl) ?_
      refine lv_iconst (v := 3) hx hb dL_law_343 (by decide) ?_
      refine lv_icmp_ge (tgt := 452) hx hb dL_law_344 (by decide) (fun _ => ?_) (fun c0 => (c0 (by decide)).elim)
      refine lv_iload hx hb dL_law_452 (lv_at hl 16 rfl) ?_
      refine lv_iconst (v := 3) hx hb dL_law_454 (by decide) ?_
      refine lv_icmp_ne (tgt := 566) hx hb dL_law_455 (by decide) (fun _ => ?_) (fun c0 => ((absurd c0 (by decide) : False)).elim)
      refine lv_iload hx hb dL_law_566 (lv_at hl 16 rfl) ?_
      refine lv_iconst (v := 4) hx hb dL_law_568 (by decide) ?_
      refine lv_icmp_ne (tgt := 606) hx hb dL_law_569 (by decide) (fun c0 => (c0 rfl).elim) (fun _ => ?_)
      refine lv_aload_n hx hb dL_law_572 rfl (lv_at hl 1 rfl) ?_
      refine lv_bipush (v := 12) hx hb dL_law_573 (by decide) ?_
      refine lv_iconst (v := 0) hx hb dL_law_575 (by decide) ?_
      refine lv_iconst (v := 0) hx hb dL_law_576 (by decide) ?_
      refine lv_iconst (v := 0) hx hb dL_law_577 (by decide) ?_
      refine lv_iconst (v := 0) hx hb dL_law_578 (by decide) ?_
      refine lv_iconst (v := 0) hx hb dL_law_579 (by decide) ?_
      obtain ⟨ai1, ao1, e12, hwi1, hwo1⟩ := e_drop hwi hwo
      refine wq_xiQW (ws := (wB ty X g0 e0 (nI n) (nI many) 1 (nI ne) pl rf tp tq ea es hn kn on cu pu gw b_1 b_2 b_3 b_p su po hds kr kv kb oa ob an ch cg fb mh ml ih lb ic cn c1 c2 c3 c4 c5 c6 wn w1 w2 w3 w4 w5 w6 ac obi sc br ai ao nn kp se co (nI many).toNatClampNeg gf ef t0 tf)) (pl := (pw ty pp)) (wc := (wW_k_L_deed_12 ty X ai ao nn kp)) (vx_runSX (As := [.ref (X 0), .int 12, .int 0, .int 0, .int 0, .int 0, .int 0]) (rest := []) ⟨hx, hb, hml, hown, hts⟩ (k_L_deed_12 l hl9 D ty td mi H.size X ai ao nn kp 0 0 0 0 0 (nI (cnB a5 + cnB a6), ai1, ao1, 0) e12.symm) (vx_cwSW 7 hts gw_deed_12 rfl rfl rfl (by decide +kernel) ⟨(Nat.le_of_ble_eq_true rfl), (Nat.le_of_ble_eq_true rfl)⟩) (wm_preS (vP_left hP) (vD_left hD) hK hE hS hA [true, false, false, false, false, false, false, false, false, false, false, false, false, false, false, false, false, false, false, false, false, false, false, false, false, false, false, false, false, false, false, false, false, false, false, false, false, false, false, true, true, true, true, true] rfl) rfl rfl hl.1 rfl (lv_room (Nat.le_of_ble_eq_true rfl)) dL_law_580 ⟨(by show 1000 + 4000 * k + 0 ≤ 600258; omega), (by show 20000 + 24000 * k + 0 ≤ 7292074; omega)⟩) hS hA hP hD [true, false, false, false, false, false, false, false, false, false, false, false, false, false, false, false, false, false, false, false, false, false, false, false, false, false, false, false, false, false, false, false, false, false, false, false, false, false, false, true, true, true, true, true] rfl (fun _ _ h => by rcases h with ⟨-, rfl⟩; rfl) (fun _ _ h => h.elim) (fun E9 u H locs q9 ce hw hP hD hS hce hcv hcl => hw.elim) (fun rr u H locs hw hP hD hS => ?_)
      obtain ⟨rfl, rfl⟩ := hw
      have hP : va_P D vwCl ((wB ty X g0 e0 (nI n) (nI many) 1 (nI ne) pl rf tp tq ea es hn kn on cu pu gw b_1 b_2 b_3 b_p su po hds kr kv kb oa ob an ch cg fb mh ml ih lb ic cn c1 c2 c3 c4 c5 c6 wn w1 w2 w3 w4 w5 w6 ac obi sc br ai1 ao1 nn 0 se co (nI many).toNatClampNeg gf ef t0 tf) ++ (pw ty pp)) H := hP
      have hD : va_D A ((wB ty X g0 e0 (nI n) (nI many) 1 (nI ne) pl rf tp tq ea es hn kn on cu pu gw b_1 b_2 b_3 b_p su po hds kr kv kb oa ob an ch cg fb mh ml ih lb ic cn c1 c2 c3 c4 c5 c6 wn w1 w2 w3 w4 w5 w6 ac obi sc br ai1 ao1 nn 0 se co (nI many).toNatClampNeg gf ef t0 tf) ++ (pw ty pp)) := hD
      refine W.widen (k := 1000 + 4000 * k) (n := 20000 + 24000 * k) (by omega) (by omega) ?_
      refine lv_iload hx hb dL_law_583 (lv_at hl 11 rfl) ?_
      refine lv_iload hx hb dL_law_585 (lv_at hl 12 rfl) ?_
      refine lv_ior hx hb dL_law_587 ?_
      refine wq_iQW (ws := (wB ty X g0 e0 (nI n) (nI many) 1 (nI ne) pl rf tp tq ea es hn kn on cu pu gw b_1 b_2 b_3 b_p su po hds kr kv kb oa ob an ch cg fb mh ml ih lb ic cn c1 c2 c3 c4 c5 c6 wn w1 w2 w3 w4 w5 w6 ac obi sc br ai1 ao1 nn 0 se co (nI many).toNatClampNeg gf ef t0 tf)) (pl := (pw ty pp)) (wc := []) (va_runS (As := [.int (a5 ||| a6)]) (rest := [.int (nI (cnB (a5) + cnB (a6)))]) ⟨hx, hb, hml, hown, hts⟩ (k_J6_bitCount_0f7a4 l D ty td mi H.size (a5 ||| a6) (nI (cnB (a5) + cnB (a6))) (bc_dis h5 h6 hds5)) (va_cwS 1 hts gw_bitCount rfl rfl rfl (by decide +kernel) ⟨(Nat.le_of_ble_eq_true rfl), (Nat.le_of_ble_eq_true rfl)⟩) (wm_preS (vP_left hP) (vD_left hD) hK hE hS hA [] rfl) rfl rfl hl.1 rfl (lv_room (Nat.le_of_ble_eq_true rfl)) dL_law_588 ⟨(by show 1000 + 4000 * k + 0 ≤ 600258; omega), (by show 20000 + 24000 * k + 0 ≤ 7292074; omega)⟩) hS hA hP hD [] rfl (fun _ _ h => by rcases h with ⟨-, rfl⟩; rfl) (fun rr u H locs hw hP hD hS => ?_)
      obtain ⟨rfl, rfl⟩ := hw
      have hP : va_P D vwCl ((wB ty X g0 e0 (nI n) (nI many) 1 (nI ne) pl rf tp tq ea es hn kn on cu pu gw b_1 b_2 b_3 b_p su po hds kr kv kb oa ob an ch cg fb mh ml ih lb ic cn c1 c2 c3 c4 c5 c6 wn w1 w2 w3 w4 w5 w6 ac obi sc br ai1 ao1 nn 0 se co (nI many).toNatClampNeg gf ef t0 tf) ++ (pw ty pp)) H := hP
      have hD : va_D A ((wB ty X g0 e0 (nI n) (nI many) 1 (nI ne) pl rf tp tq ea es hn kn on cu pu gw b_1 b_2 b_3 b_p su po hds kr kv kb oa ob an ch cg fb mh ml ih lb ic cn c1 c2 c3 c4 c5 c6 wn w1 w2 w3 w4 w5 w6 ac obi sc br ai1 ao1 nn 0 se co (nI many).toNatClampNeg gf ef t0 tf) ++ (pw ty pp)) := hD
      refine W.widen (k := 1000 + 4000 * k) (n := 20000 + 24000 * k) (by omega) (by omega) ?_
      refine lv_icmp_ne (tgt := 598) hx hb dL_law_591 (by decide) (fun c0 => (c0 rfl).elim) (fun _ => ?_)
      refine lv_iconst (v := 1) hx hb dL_law_594 (by decide) ?_
      refine lv_goto (tgt := 599) hx hb dL_law_595 (by decide) ?_
      refine lv_istore_n (lv' := [(3, .int 1), (0, .ref b), (1, .ref (X 0)), (2, .int (nI n)), (4, .int (nI many)), (5, .ref g0), (6, .ref e0), (7, .ref t0), (8, .int (nI ne)), (9, .int 0), (10, .int 0), (11, .int a5), (12, .int a6), (13, .int (nI k)), (14, .int (nI (300 + 5 * k))), (15, .int (nI pr)), (16, .int (nI 4)), (17, .int fl)]) hx hb dL_law_599 rfl hl (by decide) rfl (fun ls hl => ?_)
      refine lv_iconst (v := 0) hx hb dL_law_600 (by decide) ?_
      refine lv_istore (lv' := [(11, .int 0), (3, .int 1), (0, .ref b), (1, .ref (X 0)), (2, .int (nI n)), (4, .int (nI many)), (5, .ref g0), (6, .ref e0), (7, .ref t0), (8, .int (nI ne)), (9, .int 0), (10, .int 0), (12, .int a6), (13, .int (nI k)), (14, .int (nI (300 + 5 * k))), (15, .int (nI pr)), (16, .int (nI 4)), (17, .int fl)]) hx hb dL_law_601 hl (by decide) rfl (fun ls hl => ?_)
      refine lv_iconst (v := 0) hx hb dL_law_603 (by decide) ?_
      refine lv_istore (lv' := [(12, .int 0), (11, .int 0), (3, .int 1), (0, .ref b), (1, .ref (X 0)), (2, .int (nI n)), (4, .int (nI many)), (5, .ref g0), (6, .ref e0), (7, .ref t0), (8, .int (nI ne)), (9, .int 0), (10, .int 0), (13, .int (nI k)), (14, .int (nI (300 + 5 * k))), (15, .int (nI pr)), (16, .int (nI 4)), (17, .int fl)]) hx hb dL_law_604 hl (by decide) rfl (fun ls hl => ?_)
      have hl : lv_has ls 21 [(0, .ref b), (1, .ref (X 0)), (2, .int (nI n)), (3, .int 1), (4, .int (nI many)), (5, .ref g0), (6, .ref e0), (7, .ref t0), (8, .int (nI ne)), (9, .int 0), (10, .int 0), (11, .int 0), (12, .int 0), (13, .int (nI k))] := lv_sub hl [3, 4, 5, 2, 6, 7, 8, 9, 10, 11, 12, 1, 0, 13] rfl
      refine W.widen (k := 1010 + 4000 * k) (n := 20100 + 24000 * k) (by omega) (by omega) ?_
      exact KK ne x ea es ef 0 0 hn kn on cu pu gw b_1 b_2 b_3 b_p su po hds kr kv kb oa ob an ch cg fb mh ml ih lb ic cn c1 c2 c3 c4 c5 c6 wn w1 w2 w3 w4 w5 w6 ac obi sc br ai1 ao1 nn 0 se co hxa hxf hch (by omega) hef sm_0 sm_0 dis_0 hwi1 hwo1 (lkS_kp hst) (fun _ => rfl) H locs ls hP hD hS hl
  have L1 : ∀ (d j : Nat) (fl : Int32), j + d = ne → (fl = 0 ∧ (¬ ∃ i, i < j ∧ x i = pr) ∨ fl = 1 ∧ ∃ i, i < j ∧ x i = pr) → ∀ (ls : Array Slot), lv_has ls 21 [(0, .ref b), (1, .ref (X 0)), (2, .int (nI n)), (3, .int 1), (4, .int (nI many)), (5, .ref g0), (6, .ref e0), (7, .ref t0), (8, .int (nI ne)), (9, .int 0), (10, .int 0), (11, .int a5), (12, .int a6), (13, .int (nI k)), (14, .int (nI (300 + 5 * k))), (15, .int (nI pr)), (16, .int (nI (wt k))), (17, .int fl), (18, .int (nI j))] → W p l e room_1 s m #[Value.ref b] below meth c H locs (1000 + 4000 * k) (20000 + 24000 * k) (lw_Z below #[Value.ref b] s) (F0 m 243 ls []) := by
    intro d
    induction d with
    | zero =>
      intro j fl hjd hfl ls hl
      refine lv_iload hx hb dL_law_243 (lv_at hl 18 rfl) ?_
      refine lv_iload hx hb dL_law_245 (lv_at hl 8 rfl) ?_
      have hjn : ne = j := by omega
      subst hjn
      refine lv_icmp_ge (tgt := 278) hx hb dL_law_247 (by decide) (fun _ => ?_) (fun c0 => (c0 ((kI_le (a := ne) (b := ne) (by omega) (by omega)).mpr (Nat.le_refl _))).elim)
      exact K278 fl hfl ls (lv_sub hl [0, 1, 2, 3, 4, 5, 6, 7, 8, 9, 10, 11, 12, 13, 14, 15, 16, 17] rfl)
    | succ d IH =>
      intro j fl hjd hfl ls hl
      refine lv_iload hx hb dL_law_243 (lv_at hl 18 rfl) ?_
      refine lv_iload hx hb dL_law_245 (lv_at hl 8 rfl) ?_
      refine lv_icmp_ge (tgt := 278) hx hb dL_law_247 (by decide) (fun c0 => (nle (a := ne) (b := j) (by omega) (by omega) c0).elim) (fun _ => ?_)
      refine lv_iload hx hb dL_law_250 (lv_at hl 17 rfl) ?_
      rcases hfl with ⟨rfl, hno⟩ | ⟨rfl, i, hi, hxi⟩
      · refine lv_if_ne (tgt := 265) hx hb dL_law_252 (by decide) (fun c0 => (c0 rfl).elim) (fun _ => ?_)
        refine lv_aload hx hb dL_law_255 (lv_at hl 6 rfl) ?_
        refine lv_iload hx hb dL_law_257 (lv_at hl 18 rfl) ?_
        refine va_iald (D := D) hx hb hK hP 49 0 rfl rfl (wi_in (by rw [kI_ti (by omega)]; omega) (by rw [kI_ti (by omega)]; omega)) dL_law_259 ?_
        refine lv_topi (nm_r (e' := nI (x j)) (by rw [kI_nat (show j < 2147483648 by omega)]; exact hef j (by omega)) ?_)
        refine lv_iload hx hb dL_law_260 (lv_at hl 15 rfl) ?_
        by_cases hxp : x j = pr
        · refine lv_icmp_ne (tgt := 269) hx hb dL_law_262 (by decide) (fun c0 => (c0 (by rw [hxp])).elim) (fun _ => ?_)
          refine lv_iconst (v := 1) hx hb dL_law_265 (by decide) ?_
          refine lv_goto (tgt := 270) hx hb dL_law_266 (by decide) ?_
          refine lv_istore (lv' := [(17, .int 1), (0, .ref b), (1, .ref (X 0)), (2, .int (nI n)), (3, .int 1), (4, .int (nI many)), (5, .ref g0), (6, .ref e0), (7, .ref t0), (8, .int (nI ne)), (9, .int 0), (10, .int 0), (11, .int a5), (12, .int a6), (13, .int (nI k)), (14, .int (nI (300 + 5 * k))), (15, .int (nI pr)), (16, .int (nI (wt k))), (18, .int (nI j))]) hx hb dL_law_270 hl (by decide) rfl (fun ls hl => ?_)
          refine lv_iinc (v := nI (j + 1)) (lv' := [(18, .int (nI (j + 1))), (17, .int 1), (0, .ref b), (1, .ref (X 0)), (2, .int (nI n)), (3, .int 1), (4, .int (nI many)), (5, .ref g0), (6, .ref e0), (7, .ref t0), (8, .int (nI ne)), (9, .int 0), (10, .int 0), (11, .int a5), (12, .int a6), (13, .int (nI k)), (14, .int (nI (300 + 5 * k))), (15, .int (nI pr)), (16, .int (nI (wt k)))]) hx hb dL_law_272 hl (k := 18) rfl (kI_s j) (by decide) rfl (fun ls hl => ?_)
          refine lv_goto (tgt := 243) hx hb dL_law_275 (by decide) ?_
          have hl : lv_has ls 21 [(0, .ref b), (1, .ref (X 0)), (2, .int (nI n)), (3, .int 1), (4, .int (nI many)), (5, .ref g0), (6, .ref e0), (7, .ref t0), (8, .int (nI ne)), (9, .int 0), (10, .int 0), (11, .int a5), (12, .int a6), (13, .int (nI k)), (14, .int (nI (300 + 5 * k))), (15, .int (nI pr)), (16, .int (nI (wt k))), (17, .int 1), (18, .int (nI (j + 1)))] := lv_sub hl [2, 3, 4, 5, 6, 7, 8, 9, 10, 11, 12, 13, 14, 15, 16, 17, 18, 1, 0] rfl
          exact IH (j + 1) 1 (by omega) (Or.inr ⟨rfl, j, Nat.lt_succ_self j, hxp⟩) ls hl
        · have hx6 := (hxa.2 j (by omega)).1
          refine lv_icmp_ne (tgt := 269) hx hb dL_law_262 (by decide) (fun _ => ?_) (fun c0 => (hxp ((kI_eq (a := x j) (b := pr) (by omega) (by omega)).mp c0)).elim)
          refine lv_iconst (v := 0) hx hb dL_law_269 (by decide) ?_
          refine lv_istore (lv' := [(17, .int 0), (0, .ref b), (1, .ref (X 0)), (2, .int (nI n)), (3, .int 1), (4, .int (nI many)), (5, .ref g0), (6, .ref e0), (7, .ref t0), (8, .int (nI ne)), (9, .int 0), (10, .int 0), (11, .int a5), (12, .int a6), (13, .int (nI k)), (14, .int (nI (300 + 5 * k))), (15, .int (nI pr)), (16, .int (nI (wt k))), (18, .int (nI j))]) hx hb dL_law_270 hl (by decide) rfl (fun ls hl => ?_)
          refine lv_iinc (v := nI (j + 1)) (lv' := [(18, .int (nI (j + 1))), (17, .int 0), (0, .ref b), (1, .ref (X 0)), (2, .int (nI n)), (3, .int 1), (4, .int (nI many)), (5, .ref g0), (6, .ref e0), (7, .ref t0), (8, .int (nI ne)), (9, .int 0), (10, .int 0), (11, .int a5), (12, .int a6), (13, .int (nI k)), (14, .int (nI (300 + 5 * k))), (15, .int (nI pr)), (16, .int (nI (wt k)))]) hx hb dL_law_272 hl (k := 18) rfl (kI_s j) (by decide) rfl (fun ls hl => ?_)
          refine lv_goto (tgt := 243) hx hb dL_law_275 (by decide) ?_
          have hl : lv_has ls 21 [(0, .ref b), (1, .ref (X 0)), (2, .int (nI n)), (3, .int 1), (4, .int (nI many)), (5, .ref g0), (6, .ref e0), (7, .ref t0), (8, .int (nI ne)), (9, .int 0), (10, .int 0), (11, .int a5), (12, .int a6), (13, .int (nI k)), (14, .int (nI (300 + 5 * k))), (15, .int (nI pr)), (16, .int (nI (wt k))), (17, .int 0), (18, .int (nI (j + 1)))] := lv_sub hl [2, 3, 4, 5, 6, 7, 8, 9, 10, 11, 12, 13, 14, 15, 16, 17, 18, 1, 0] rfl
          exact IH (j + 1) 0 (by omega) (Or.inl ⟨rfl, fun ⟨i, hi, hxi⟩ => (Nat.lt_succ_iff_lt_or_eq.mp hi).elim (fun g => hno ⟨i, g, hxi⟩) (fun g => hxp (by rw [← g]; exact hxi))⟩) ls hl
      · refine lv_if_ne (tgt := 265) hx hb dL_law_252 (by decide) (fun _ => ?_) (fun c0 => ((absurd c0 (by decide) : False)).elim)
        refine lv_iconst (v := 1) hx hb dL_law_265 (by decide) ?_
        refine lv_goto (tgt := 270) hx hb dL_law_266 (by decide) ?_
        refine lv_istore (lv' := [(17, .int 1), (0, .ref b), (1, .ref (X 0)), (2, .int (nI n)), (3, .int 1), (4, .int (nI many)), (5, .ref g0), (6, .ref e0), (7, .ref t0), (8, .int (nI ne)), (9, .int 0), (10, .int 0), (11, .int a5), (12, .int a6), (13, .int (nI k)), (14, .int (nI (300 + 5 * k))), (15, .int (nI pr)), (16, .int (nI (wt k))), (18, .int (nI j))]) hx hb dL_law_270 hl (by decide) rfl (fun ls hl => ?_)
        refine lv_iinc (v := nI (j + 1)) (lv' := [(18, .int (nI (j + 1))), (17, .int 1), (0, .ref b), (1, .ref (X 0)), (2, .int (nI n)), (3, .int 1), (4, .int (nI many)), (5, .ref g0), (6, .ref e0), (7, .ref t0), (8, .int (nI ne)), (9, .int 0), (10, .int 0), (11, .int a5), (12, .int a6), (13, .int (nI k)), (14, .int (nI (300 + 5 * k))), (15, .int (nI pr)), (16, .int (nI (wt k)))]) hx hb dL_law_272 hl (k := 18) rfl (kI_s j) (by decide) rfl (fun ls hl => ?_)
        refine lv_goto (tgt := 243) hx hb dL_law_275 (by decide) ?_
        have hl : lv_has ls 21 [(0, .ref b), (1, .ref (X 0)), (2, .int (nI n)), (3, .int 1), (4, .int (nI many)), (5, .ref g0), (6, .ref e0), (7, .ref t0), (8, .int (nI ne)), (9, .int 0), (10, .int 0), (11, .int a5), (12, .int a6), (13, .int (nI k)), (14, .int (nI (300 + 5 * k))), (15, .int (nI pr)), (16, .int (nI (wt k))), (17, .int 1), (18, .int (nI (j + 1)))] := lv_sub hl [2, 3, 4, 5, 6, 7, 8, 9, 10, 11, 12, 13, 14, 15, 16, 17, 18, 1, 0] rfl
        exact IH (j + 1) 1 (by omega) (Or.inr ⟨rfl, i, Nat.lt_succ_of_lt hi, hxi⟩) ls hl
  exact L1 ne 0 0 (Nat.zero_add _) (Or.inl ⟨rfl, fun ⟨i, hi, _⟩ => absurd hi (Nat.not_lt_zero i)⟩) ls hl
theorem law_end {p : Program} {l : Launch} {e : Env} {s : State} {m : MethodId} {below : List Frame} {meth : Method} {c : Code} {b L : Nat} {xs : Nat → Int32} (C0 : lw_At p s m meth c b L xs) {H : Heap} {locs : List Loc} {cells slots pc : Nat} {ls : Array Slot} (hS : va_S (fun q => s.heap.size ≤ q) s.heap H locs) (h1 : cells ≤ 600258) (h2 : slots ≤ 7292074) (hdg : decode code pc = .ok (.ireturn, 1)) : W p l e room_1 s m #[Value.ref b] below meth c H locs cells slots (lw_Z below #[Value.ref b] s) (F0 m pc ls [.int 1]) := by
  obtain ⟨hx, hb, hr, hml, hown, hts, hX, hbl, hlocks, hgv⟩ := id C0
  refine va_forget (fun q hq => hS.2.2 q hq) ?_
  refine W.widen (k := 600258) (n := 7292074) h1 h2 ?_
  exact W.base (lw_ret (Drawn.sameBut.refl s.drawn lw_cs) hx hb hr hlocks hdg)
set_option maxHeartbeats 4000000 in
set_option maxRecDepth 100000 in
theorem lk_end {p : Program} {l : Launch} {e : Env} {s : State} {m : MethodId} {below : List Frame} {meth : Method} {c : Code} {b : Nat} {D : va_G} {ty : Nat → ClassId} {A : Nat → Prop} {X : Nat → Nat} {g0 e0 t0 n many : Nat} {pp : pT} {rf gf : Nat → Option Nat} {pl tp tq tf : Nat → Int32} (hl9 : l.stackTraces = false) {td mi L : Nat} {xs : Nat → Int32} (C0 : lw_At p s m meth c b L xs) (hL : L ≤ 260) (hAe : (fun q => s.heap.size ≤ q) = A) (hK : va_K D vwCl (wq_ty ty) s) (hE : wq_E A td mi s s.heap) (hpr : prOK pp n rf gf many) (hok : pOK pp) (hru : ∀ (i a : Nat), rf i = some a → a ∈ pRA pp) (hrr : ∀ i : Int32, 0 ≤ i.toInt → i.toInt < (nI many).toInt → ∃ a, gf i.toNatClampNeg = some a ∧ a ∈ pZA pp) (hn3 : 3 ≤ n) (hn6 : n ≤ 6) (hpl : ∀ p, p < n → pl p = 0) (ht : tp 0 = 0) (hq : tq 0 = 0) (htf : ∀ j, j < 6 → tf j = 102) : LK p l e s m below meth c b D ty A X g0 e0 t0 n many pp rf gf pl tp tq tf 9 := by
  obtain ⟨hx, hb, hr, hml, hown, hts, hX, hbl, hlocks, hgv⟩ := id C0
  have hA : ∀ q : Nat, s.heap.size ≤ q → A q := fun q h => by rw [← hAe]; exact h
  have hbA : ¬ A b := by rw [← hAe]; exact Nat.not_le.mpr hbl
  intro ne x ea es ef a5 a6 hn kn on cu pu gw b_1 b_2 b_3 b_p su po hds kr kv kb oa ob an ch cg fb mh ml ih lb ic cn c1 c2 c3 c4 c5 c6 wn w1 w2 w3 w4 w5 w6 ac obi sc br ai ao nn kp se co hxa hxf hch hnb hef h5 h6 hds5 hwi hwo hst hkp H locs ls hP hD hS hl
  refine lv_iload hx hb dL_law_196 (lv_at hl 13 rfl) ?_
  refine lv_bipush (v := 9) hx hb dL_law_198 (by decide) ?_
  refine lv_icmp_ge (tgt := 726) hx hb dL_law_200 (by decide) (fun _ => ?_) (fun c0 => (c0 (by decide)).elim)
  refine lv_iload_n hx hb dL_law_726 rfl (lv_at hl 3 rfl) ?_
  subst hAe
  exact law_end C0 hS (by omega) (by omega) dL_law_727
theorem lk_all {p : Program} {l : Launch} {e : Env} {s : State} {m : MethodId} {below : List Frame} {meth : Method} {c : Code} {b : Nat} {D : va_G} {ty : Nat → ClassId} {A : Nat → Prop} {X : Nat → Nat} {g0 e0 t0 n many : Nat} {pp : pT} {rf gf : Nat → Option Nat} {pl tp tq tf : Nat → Int32} (hl9 : l.stackTraces = false) {td mi L : Nat} {xs : Nat → Int32} (C0 : lw_At p s m meth c b L xs) (hL : L ≤ 260) (hAe : (fun q => s.heap.size ≤ q) = A) (hK : va_K D vwCl (wq_ty ty) s) (hE : wq_E A td mi s s.heap) (hpr : prOK pp n rf gf many) (hok : pOK pp) (hru : ∀ (i a : Nat), rf i = some a → a ∈ pRA pp) (hrr : ∀ i : Int32, 0 ≤ i.toInt → i.toInt < (nI many).toInt → ∃ a, gf i.toNatClampNeg = some a ∧ a ∈ pZA pp) (hn3 : 3 ≤ n) (hn6 : n ≤ 6) (hpl : ∀ p, p < n → pl p = 0) (ht : tp 0 = 0) (hq : tq 0 = 0) (htf : ∀ j, j < 6 → tf j = 102) : ∀ d k : Nat, k + d = 9 → LK p l e s m below meth c b D ty A X g0 e0 t0 n many pp rf gf pl tp tq tf k := by
  intro d
  induction d with
  | zero =>
    intro k hk
    obtain rfl : k = 9 := by omega
    exact lk_end hl9 C0 hL hAe hK hE hpr hok hru hrr hn3 hn6 hpl ht hq htf
  | succ d IH =>
    intro k hk
    exact lk_act hl9 C0 hL hAe hK hE hpr hok hru hrr hn3 hn6 hpl ht hq htf (by omega) (lk_tail hl9 C0 hL hAe hK hE hpr hok hru hrr hn3 hn6 hpl ht hq htf (by omega) (IH (k + 1) (by omega)))
