def wA (ty : Nat → ClassId) (X : Nat → Nat) (z9_0 : Int32) (z9_1 : Int32) (z9_2 : Int32) (z9_3 : Int32) (z9_4 : Nat → Int32) (z9_5 : Nat → Option Nat) (z9_6 : Int32) (z9_7 : Int32) (z9_8 : Int32) (z9_9 : Int32) (z9_10 : Int32) (z9_11 : Int32) (z9_12 : Int32) (z9_13 : Int32) (z9_14 : Int32) (z9_15 : Int32) (z9_16 : Int32) (z9_17 : Int32) (z9_18 : Int32) (z9_19 : Int32) (z9_20 : Int32) (z9_21 : Int32) (z9_22 : Int32) : va_W := [((X 0), .inr (12, [.ref (X 1), .ref (X 8), .ref (X 20), .ref (X 39), .ref (X 41), .ref (X 43), .ref (X 45)])), ((X 1), .inr (8, [.ref (X 2), .int z9_0, .ref (X 3), .int z9_1, .ref (X 4), .ref (X 5), .int z9_2, .ref (X 6), .ref (X 7), .int z9_3])), ((X 2), .inl (ty 0, 6, .inl z9_4)), ((X 3), .inl (ty 4, 20, .inr (.inr (.inr (.inr z9_5))))), ((X 8), .inr (5, [.ref (X 1), .ref (X 9), .ref (X 10), .ref (X 12), .ref (X 14), .int z9_6, .ref (X 15), .ref (X 16), .ref (X 17), .int z9_7, .ref (X 18), .ref (X 19), .int z9_8, .int z9_9, .int z9_10, .int z9_11])), ((X 20), .inr (11, [.ref (X 1), .ref (X 8), .ref (X 21), .ref (X 28), .ref (X 35), .int z9_12, .ref (X 36), .ref (X 37), .ref (X 38), .int z9_13, .int z9_14, .int z9_15, .int z9_16, .int z9_17, .int z9_18, .int z9_19, .int z9_20])), ((X 45), .inr (2, [.ref (X 46), .ref (X 47), .int z9_21, .int z9_22]))]
def vs_k_L_addRule : List Cond := .code yL_addRule cL_addRule 14 (some (.array .int)) :: ([.arrayClass .int, .methodLink RL 159 yL_pick, .static yL_pick, .initialized RL, .methodLink RL 132 yL_deed, .static yL_deed, .methodLink RL 163 yL_atom, .static yL_atom, .methodLink RL 100 yL_told, .static yL_told] ++ (vs_k_L_deed_1 ++ (vs_k_L_deed_2 ++ (vs_k_L_deed_3 ++ (vs_k_L_atom_2 ++ (vs_k_L_atom_0 ++ (vs_k_L_atom_1 ++ (vs_k_L_deed_7 ++ (vs_k_L_pick ++ vs_k_L_told)))))))))
set_option maxRecDepth 20000 in
theorem gv_k_L_addRule_L_deed_1 : GoodIn vs_k_L_addRule (va_wsS RL 132 yL_deed vs_k_L_deed_1) := goodIn_app (goodIn_sub (by decide +kernel) (by decide +kernel)) (goodIn_sub (fun _ h => List.mem_cons_of_mem _ (List.mem_append_right _ (List.mem_append_left _ h))) (by decide +kernel))
set_option maxRecDepth 20000 in
theorem gv_k_L_addRule_L_deed_2 : GoodIn vs_k_L_addRule (va_wsS RL 132 yL_deed vs_k_L_deed_2) := goodIn_app (goodIn_sub (by decide +kernel) (by decide +kernel)) (goodIn_sub (fun _ h => List.mem_cons_of_mem _ (List.mem_append_right _ (List.mem_append_right _ (List.mem_append_left _ h)))) (by decide +kernel))
set_option maxRecDepth 20000 in
theorem gv_k_L_addRule_L_deed_3 : GoodIn vs_k_L_addRule (va_wsS RL 132 yL_deed vs_k_L_deed_3) := goodIn_app (goodIn_sub (by decide +kernel) (by decide +kernel)) (goodIn_sub (fun _ h => List.mem_cons_of_mem _ (List.mem_append_right _ (List.mem_append_right _ (List.mem_append_right _ (List.mem_append_left _ h))))) (by decide +kernel))
set_option maxRecDepth 20000 in
theorem gv_k_L_addRule_L_atom_2 : GoodIn vs_k_L_addRule (va_wsS RL 163 yL_atom vs_k_L_atom_2) := goodIn_app (goodIn_sub (by decide +kernel) (by decide +kernel)) (goodIn_sub (fun _ h => List.mem_cons_of_mem _ (List.mem_append_right _ (List.mem_append_right _ (List.mem_append_right _ (List.mem_append_right _ (List.mem_append_left _ h)))))) (by decide +kernel))
set_option maxRecDepth 20000 in
theorem gv_k_L_addRule_L_atom_0 : GoodIn vs_k_L_addRule (va_wsS RL 163 yL_atom vs_k_L_atom_0) := goodIn_app (goodIn_sub (by decide +kernel) (by decide +kernel)) (goodIn_sub (fun _ h => List.mem_cons_of_mem _ (List.mem_append_right _ (List.mem_append_right _ (List.mem_append_right _ (List.mem_append_right _ (List.mem_append_right _ (List.mem_append_left _ h))))))) (by decide +kernel))
set_option maxRecDepth 20000 in
theorem gv_k_L_addRule_L_atom_1 : GoodIn vs_k_L_addRule (va_wsS RL 163 yL_atom vs_k_L_atom_1) := goodIn_app (goodIn_sub (by decide +kernel) (by decide +kernel)) (goodIn_sub (fun _ h => List.mem_cons_of_mem _ (List.mem_append_right _ (List.mem_append_right _ (List.mem_append_right _ (List.mem_append_right _ (List.mem_append_right _ (List.mem_append_right _ (List.mem_append_left _ h)))))))) (by decide +kernel))
set_option maxRecDepth 20000 in
theorem gv_k_L_addRule_L_deed_7 : GoodIn vs_k_L_addRule (va_wsS RL 132 yL_deed vs_k_L_deed_7) := goodIn_app (goodIn_sub (by decide +kernel) (by decide +kernel)) (goodIn_sub (fun _ h => List.mem_cons_of_mem _ (List.mem_append_right _ (List.mem_append_right _ (List.mem_append_right _ (List.mem_append_right _ (List.mem_append_right _ (List.mem_append_right _ (List.mem_append_right _ (List.mem_append_left _ h))))))))) (by decide +kernel))
set_option maxRecDepth 20000 in
theorem gv_k_L_addRule_L_pick : GoodIn vs_k_L_addRule (va_wsS RL 159 yL_pick vs_k_L_pick) := goodIn_app (goodIn_sub (by decide +kernel) (by decide +kernel)) (goodIn_sub (fun _ h => List.mem_cons_of_mem _ (List.mem_append_right _ (List.mem_append_right _ (List.mem_append_right _ (List.mem_append_right _ (List.mem_append_right _ (List.mem_append_right _ (List.mem_append_right _ (List.mem_append_right _ (List.mem_append_left _ h)))))))))) (by decide +kernel))
set_option maxRecDepth 20000 in
theorem gv_k_L_addRule_L_told : GoodIn vs_k_L_addRule (va_wsS RL 100 yL_told vs_k_L_told) := goodIn_app (goodIn_sub (by decide +kernel) (by decide +kernel)) (goodIn_sub (fun _ h => List.mem_cons_of_mem _ (List.mem_append_right _ (List.mem_append_right _ (List.mem_append_right _ (List.mem_append_right _ (List.mem_append_right _ (List.mem_append_right _ (List.mem_append_right _ (List.mem_append_right _ (List.mem_append_right _ (h))))))))))) (by decide +kernel))
set_option maxHeartbeats 4000000 in
set_option maxRecDepth 100000 in
theorem k_L_addRule (l : Launch) (hl9 : l.stackTraces = false) (D : va_G) (ty : Nat → ClassId) (td mi sz : Nat) (X : Nat → Nat) (n r i b L : Nat) (xs : Nat → Int32) (tn en : Int32) (pl : Nat → Int32) (rf : Nat → Option Nat) (hn kn on cu pu gw an ch cg fb mh ml ih lb ic nn kp : Int32) (hn6 : n ≤ 6) (hn0 : 0 < n) (hr20 : r < 20) (hi9 : i < 900) (hL : L ≤ 260) (hpl : ∀ p, p < n → pl p = 0) : Met l yL_addRule vs_k_L_addRule { frames := 11, cells := 15, slots := 105, locals := 260 } (va_Pc [.ref (X 0), .ref b, .int (nI i), .int (nI n), .int (nI r)] (wq_PS D ty td mi (wA ty X (nI n) (nI r) tn en pl rf hn kn on cu pu gw an ch cg fb mh ml ih lb ic nn kp) sz b L xs)) (wq_Qr (fun (v : Value) (u : va_W) => ∃ (p : pT) (a z h c : Nat), v = .ref z ∧ pRA p = [a] ∧ pZA p = [z] ∧ pOK p ∧ rOK p n a z h c ∧ zOK p z ∧ pI p z 10 = 1 ∧ u = (wA ty X (nI n) (nI (r + 1)) tn en pl (va_up rf (nI r).toNatClampNeg (some a)) hn kn on 0 pu gw an ch cg fb mh ml ih lb 0 nn 0) ++ pw ty p) (wq_B D (va_A (wA ty X (nI n) (nI r) tn en pl rf hn kn on cu pu gw an ch cg fb mh ml ih lb ic nn kp) sz)) (va_A (wA ty X (nI n) (nI r) tn en pl rf hn kn on cu pu gw an ch cg fb mh ml ih lb ic nn kp) sz)) 15 105 (va_A (wA ty X (nI n) (nI r) tn en pl rf hn kn on cu pu gw an ch cg fb mh ml ih lb ic nn kp) sz) := by
  refine Met.ofW (cc := cL_addRule) (maxL := 14) (ret := (some (.array .int))) (by decide) rfl ?_
  intro p e s m args below meth c s₁ B hml hv
  obtain ⟨rfl, ⟨hsz, hP, hK, hD0, hE⟩, hX, hbl, hbA⟩ := hv
  have hx := B.exec
  have hb := B.bytes
  have hr := B.returns
  have hts := atoms_spec (ws := vs_k_L_addRule) B.pre
  have hown : s.vm.findClass RL = some m.cls := findClass_of_methodNamed B.named
  have hlocks := B.notSynchronized
  subst hsz
  have hD := hD0.self (sz := s.heap.size)
  generalize hAe : va_A (wA ty X (nI n) (nI r) tn en pl rf hn kn on cu pu gw an ch cg fb mh ml ih lb ic nn kp) s.heap.size = A at hD hE hbA ⊢
  have hA : ∀ q : Nat, s.heap.size ≤ q → A q := fun q h => by rw [← hAe]; exact Or.inr h
  have hS : va_S A s.heap s.heap [] := va_S.rf
  have hP : va_P D vwCl (wA ty X (nI n) (nI r) tn en pl rf hn kn on cu pu gw an ch cg fb mh ml ih lb ic nn kp) s.heap := hP
  have hl := lv_entry ([.ref (X 0), .ref b, .int (nI i), .int (nI n), .int (nI r)]) (n := 14) (Nat.le_of_ble_eq_true rfl)
  rw [lg_entry_eq]
  generalize (lg_sl ([.ref (X 0), .ref b, .int (nI i), .int (nI n), .int (nI r)]) ++ List.replicate (14 - (lg_sl ([.ref (X 0), .ref b, .int (nI i), .int (nI n), .int (nI r)])).length) Slot.unset).toArray = ls at hl ⊢
  have hl : lv_has ls 14 [(0, .ref (X 0)), (1, .ref b), (2, .int (nI i)), (3, .int (nI n)), (4, .int (nI r))] := hl
  have L2 : ∀ (d : Nat) (z y0 y1 y2 : Nat) (K lo up we le : Int32) (hds : List (Nat × Nat)) (cds : List (Nat × Int32 × Nat × Int32)) (zf : Nat → Int32), cds.length + d = 3 → rwF n K lo up we le hds cds zf → ∀ (H : Heap) (locs : List Loc) (ls : Array Slot), va_P D vwCl (((wA ty X (nI n) (nI (r + 1)) tn en pl (va_up rf (nI r).toNatClampNeg (some y0)) hn kn on 0 pu gw an ch cg fb mh ml ih lb 0 nn 0) ++ [(z, .inl (ty 0, 11, .inl zf)), (y0, .inr (10, [.int K, .int 0, .int lo, .int up, .int (-1), .int we, .int le, .ref y1, .int (nI hds.length), .ref y2, .int (nI cds.length)])), (y1, .inl (ty 5, 2, .inr (.inr (.inr (.inr (hF hds)))))), (y2, .inl (ty 5, 5, .inr (.inr (.inr (.inr (cF cds))))))]) ++ (hds.map lH ++ cds.map lC)) H → va_D A (((wA ty X (nI n) (nI (r + 1)) tn en pl (va_up rf (nI r).toNatClampNeg (some y0)) hn kn on 0 pu gw an ch cg fb mh ml ih lb 0 nn 0) ++ [(z, .inl (ty 0, 11, .inl zf)), (y0, .inr (10, [.int K, .int 0, .int lo, .int up, .int (-1), .int we, .int le, .ref y1, .int (nI hds.length), .ref y2, .int (nI cds.length)])), (y1, .inl (ty 5, 2, .inr (.inr (.inr (.inr (hF hds)))))), (y2, .inl (ty 5, 5, .inr (.inr (.inr (.inr (cF cds))))))]) ++ (hds.map lH ++ cds.map lC)) → va_S A s.heap H locs → lv_has ls 14 [(0, .ref (X 0)), (1, .ref b), (2, .int (nI i)), (3, .int (nI n)), (4, .int (nI r)), (5, .ref z), (8, .int 1), (10, .int (nI cds.length))] → W p l e (headSpec vs_k_L_addRule { frames := 11, cells := 15, slots := 105, locals := 260 }).room s m ([.ref (X 0), .ref b, .int (nI i), .int (nI n), .int (nI r)] : List Value).toArray below meth c H locs (9 + 2 * cds.length) (63 + 14 * cds.length) (MQ below (wq_Qr (fun (v : Value) (u : va_W) => ∃ (p : pT) (a z h c : Nat), v = .ref z ∧ pRA p = [a] ∧ pZA p = [z] ∧ pOK p ∧ rOK p n a z h c ∧ zOK p z ∧ pI p z 10 = 1 ∧ u = (wA ty X (nI n) (nI (r + 1)) tn en pl (va_up rf (nI r).toNatClampNeg (some a)) hn kn on 0 pu gw an ch cg fb mh ml ih lb 0 nn 0) ++ pw ty p) (wq_B D A) A) ([.ref (X 0), .ref b, .int (nI i), .int (nI n), .int (nI r)] : List Value).toArray s 15 105 A) (F0 m 316 ls []) := by
    intro d
    induction d with
    | zero =>
      intro z y0 y1 y2 K lo up we le hds cds zf hd hF9 H locs ls hP hD hS hl
      have hcl : cds.length ≤ 3 := by omega
      refine lv_iload hx hb dL_addRule_316 (lv_at hl 7 rfl) ?_
      refine lv_aload_n hx hb dL_addRule_318 rfl (lv_at hl 1 rfl) ?_
      refine lv_iload_n hx hb dL_addRule_319 rfl (lv_at hl 2 rfl) ?_
      refine lv_bipush (v := 7) hx hb dL_addRule_320 (by decide) ?_
      refine lv_iadd hx hb dL_addRule_322 ?_
      refine lv_topi (nm_r (e' := nI (i + 7)) (nI_add i 7) ?_)
      refine lv_iconst (v := 4) hx hb dL_addRule_323 (by decide) ?_
      obtain ⟨c7, h_c7, e_c7⟩ := pick_lt L xs (nI (i + 7)) (m := 4) (by decide) (by decide)
      refine wq_iQW (ws := ((wA ty X (nI n) (nI (r + 1)) tn en pl (va_up rf (nI r).toNatClampNeg (some y0)) hn kn on 0 pu gw an ch cg fb mh ml ih lb 0 nn 0) ++ [(z, .inl (ty 0, 11, .inl zf)), (y0, .inr (10, [.int K, .int 0, .int lo, .int up, .int (-1), .int we, .int le, .ref y1, .int (nI hds.length), .ref y2, .int (nI cds.length)])), (y1, .inl (ty 5, 2, .inr (.inr (.inr (.inr (hF hds)))))), (y2, .inl (ty 5, 5, .inr (.inr (.inr (.inr (cF cds))))))])) (pl := (hds.map lH ++ cds.map lC)) (wc := []) (va_runS (As := [.ref b, .int (nI (i + 7)), .int (nI 4)]) (rest := [.int (nI cds.length)]) ⟨hx, hb, hml, hown, hts⟩ (k_L_pick l D ty td mi H.size L xs b (nI (i + 7)) (nI 4) (kI_nn (by omega)) (by decide) hL (nI c7) e_c7.symm) (va_cwS 3 hts gv_k_L_addRule_L_pick rfl rfl rfl (by decide +kernel) ⟨(Nat.le_of_ble_eq_true rfl), (Nat.le_of_ble_eq_true rfl)⟩) (wq_preSS (wm_preS (vP_left hP) (vD_left hD) hK hE hS hA [] rfl) hX hbl hbA hS (wm_free (vD_left hD) hS hA [] rfl)) rfl rfl hl.1 rfl (lv_room (Nat.le_of_ble_eq_true rfl)) dL_addRule_324 ⟨(by show 9 + 2 * cds.length + 0 ≤ 15; omega), (by show 63 + 14 * cds.length + 0 ≤ 105; omega)⟩) hS hA hP hD [] rfl (fun _ _ h => by rcases h with ⟨-, rfl⟩; rfl) (fun rr u H locs hw hP hD hS => ?_)
      obtain ⟨rfl, rfl⟩ := hw
      have hP : va_P D vwCl (((wA ty X (nI n) (nI (r + 1)) tn en pl (va_up rf (nI r).toNatClampNeg (some y0)) hn kn on 0 pu gw an ch cg fb mh ml ih lb 0 nn 0) ++ [(z, .inl (ty 0, 11, .inl zf)), (y0, .inr (10, [.int K, .int 0, .int lo, .int up, .int (-1), .int we, .int le, .ref y1, .int (nI hds.length), .ref y2, .int (nI cds.length)])), (y1, .inl (ty 5, 2, .inr (.inr (.inr (.inr (hF hds)))))), (y2, .inl (ty 5, 5, .inr (.inr (.inr (.inr (cF cds))))))]) ++ (hds.map lH ++ cds.map lC)) H := hP
      have hD : va_D A (((wA ty X (nI n) (nI (r + 1)) tn en pl (va_up rf (nI r).toNatClampNeg (some y0)) hn kn on 0 pu gw an ch cg fb mh ml ih lb 0 nn 0) ++ [(z, .inl (ty 0, 11, .inl zf)), (y0, .inr (10, [.int K, .int 0, .int lo, .int up, .int (-1), .int we, .int le, .ref y1, .int (nI hds.length), .ref y2, .int (nI cds.length)])), (y1, .inl (ty 5, 2, .inr (.inr (.inr (.inr (hF hds)))))), (y2, .inl (ty 5, 5, .inr (.inr (.inr (.inr (cF cds))))))]) ++ (hds.map lH ++ cds.map lC)) := hD
      refine W.widen (k := 9 + 2 * cds.length) (n := 63 + 14 * cds.length) (by omega) (by omega) ?_
      have dk : ¬ cds.length < c7 := by omega
      refine lv_icmp_ge (tgt := 600) hx hb dL_addRule_327 (by decide) (fun _ => ?_) (fun c0 => (c0 ((kI_le (a := c7) (b := cds.length) (by omega) (by omega)).mpr (by omega))).elim)
      refine lv_aload hx hb dL_addRule_600 (lv_at hl 5 rfl) ?_
      refine lv_bipush (v := 10) hx hb dL_addRule_602 (by decide) ?_
      refine lv_iload hx hb dL_addRule_604 (lv_at hl 6 rfl) ?_
      refine wq_iQW (ws := ((wA ty X (nI n) (nI (r + 1)) tn en pl (va_up rf (nI r).toNatClampNeg (some y0)) hn kn on 0 pu gw an ch cg fb mh ml ih lb 0 nn 0) ++ [(z, .inl (ty 0, 11, .inl zf)), (y0, .inr (10, [.int K, .int 0, .int lo, .int up, .int (-1), .int we, .int le, .ref y1, .int (nI hds.length), .ref y2, .int (nI cds.length)])), (y1, .inl (ty 5, 2, .inr (.inr (.inr (.inr (hF hds)))))), (y2, .inl (ty 5, 5, .inr (.inr (.inr (.inr (cF cds))))))])) (pl := (hds.map lH ++ cds.map lC)) (wc := []) (va_runS (As := [.int 1]) (rest := [.int 10, .ref z]) ⟨hx, hb, hml, hown, hts⟩ (k_L_told l D ty td mi H.size 1 1 told_1.symm) (va_cwS 1 hts gv_k_L_addRule_L_told rfl rfl rfl (by decide +kernel) ⟨(Nat.le_of_ble_eq_true rfl), (Nat.le_of_ble_eq_true rfl)⟩) (wm_preS (vP_left hP) (vD_left hD) hK hE hS hA [] rfl) rfl rfl hl.1 rfl (lv_room (Nat.le_of_ble_eq_true rfl)) dL_addRule_606 ⟨(by show 9 + 2 * cds.length + 0 ≤ 15; omega), (by show 63 + 14 * cds.length + 0 ≤ 105; omega)⟩) hS hA hP hD [] rfl (fun _ _ h => by rcases h with ⟨-, rfl⟩; rfl) (fun rr u H locs hw hP hD hS => ?_)
      obtain ⟨rfl, rfl⟩ := hw
      have hP : va_P D vwCl (((wA ty X (nI n) (nI (r + 1)) tn en pl (va_up rf (nI r).toNatClampNeg (some y0)) hn kn on 0 pu gw an ch cg fb mh ml ih lb 0 nn 0) ++ [(z, .inl (ty 0, 11, .inl zf)), (y0, .inr (10, [.int K, .int 0, .int lo, .int up, .int (-1), .int we, .int le, .ref y1, .int (nI hds.length), .ref y2, .int (nI cds.length)])), (y1, .inl (ty 5, 2, .inr (.inr (.inr (.inr (hF hds)))))), (y2, .inl (ty 5, 5, .inr (.inr (.inr (.inr (cF cds))))))]) ++ (hds.map lH ++ cds.map lC)) H := hP
      have hD : va_D A (((wA ty X (nI n) (nI (r + 1)) tn en pl (va_up rf (nI r).toNatClampNeg (some y0)) hn kn on 0 pu gw an ch cg fb mh ml ih lb 0 nn 0) ++ [(z, .inl (ty 0, 11, .inl zf)), (y0, .inr (10, [.int K, .int 0, .int lo, .int up, .int (-1), .int we, .int le, .ref y1, .int (nI hds.length), .ref y2, .int (nI cds.length)])), (y1, .inl (ty 5, 2, .inr (.inr (.inr (.inr (hF hds)))))), (y2, .inl (ty 5, 5, .inr (.inr (.inr (.inr (cF cds))))))]) ++ (hds.map lH ++ cds.map lC)) := hD
      refine W.widen (k := 9 + 2 * cds.length) (n := 63 + 14 * cds.length) (by omega) (by omega) ?_
      refine va_iast (D := D) hx hb hK hP hD hS 7 0 rfl rfl (wi_in (by decide) (by decide)) dL_addRule_609 (fun H locs hP hD hS => ?_)
      have hP : va_P D vwCl (((wA ty X (nI n) (nI (r + 1)) tn en pl (va_up rf (nI r).toNatClampNeg (some y0)) hn kn on 0 pu gw an ch cg fb mh ml ih lb 0 nn 0) ++ [(z, .inl (ty 0, 11, .inl (upd zf (10 : Int32).toNatClampNeg 1))), (y0, .inr (10, [.int K, .int 0, .int lo, .int up, .int (-1), .int we, .int le, .ref y1, .int (nI hds.length), .ref y2, .int (nI cds.length)])), (y1, .inl (ty 5, 2, .inr (.inr (.inr (.inr (hF hds)))))), (y2, .inl (ty 5, 5, .inr (.inr (.inr (.inr (cF cds))))))]) ++ (hds.map lH ++ cds.map lC)) H := hP
      have hD : va_D A (((wA ty X (nI n) (nI (r + 1)) tn en pl (va_up rf (nI r).toNatClampNeg (some y0)) hn kn on 0 pu gw an ch cg fb mh ml ih lb 0 nn 0) ++ [(z, .inl (ty 0, 11, .inl (upd zf (10 : Int32).toNatClampNeg 1))), (y0, .inr (10, [.int K, .int 0, .int lo, .int up, .int (-1), .int we, .int le, .ref y1, .int (nI hds.length), .ref y2, .int (nI cds.length)])), (y1, .inl (ty 5, 2, .inr (.inr (.inr (.inr (hF hds)))))), (y2, .inl (ty 5, 5, .inr (.inr (.inr (.inr (cF cds))))))]) ++ (hds.map lH ++ cds.map lC)) := hD
      refine lv_aload hx hb dL_addRule_610 (lv_at hl 5 rfl) ?_
      have hP : va_P D vwCl ((wA ty X (nI n) (nI (r + 1)) tn en pl (va_up rf (nI r).toNatClampNeg (some y0)) hn kn on 0 pu gw an ch cg fb mh ml ih lb 0 nn 0) ++ ([(z, .inl (ty 0, 11, .inl (upd zf (10 : Int32).toNatClampNeg 1))), (y0, .inr (10, [.int K, .int 0, .int lo, .int up, .int (-1), .int we, .int le, .ref y1, .int (nI hds.length), .ref y2, .int (nI cds.length)])), (y1, .inl (ty 5, 2, .inr (.inr (.inr (.inr (hF hds)))))), (y2, .inl (ty 5, 5, .inr (.inr (.inr (.inr (cF cds))))))] ++ (hds.map lH ++ cds.map lC))) H := hP
      have hD : va_D A ((wA ty X (nI n) (nI (r + 1)) tn en pl (va_up rf (nI r).toNatClampNeg (some y0)) hn kn on 0 pu gw an ch cg fb mh ml ih lb 0 nn 0) ++ ([(z, .inl (ty 0, 11, .inl (upd zf (10 : Int32).toNatClampNeg 1))), (y0, .inr (10, [.int K, .int 0, .int lo, .int up, .int (-1), .int we, .int le, .ref y1, .int (nI hds.length), .ref y2, .int (nI cds.length)])), (y1, .inl (ty 5, 2, .inr (.inr (.inr (.inr (hF hds)))))), (y2, .inl (ty 5, 5, .inr (.inr (.inr (.inr (cF cds))))))] ++ (hds.map lH ++ cds.map lC))) := hD
      obtain ⟨g1, g2, g3, g4, g5, g6, g7, g8, g9, g10, g11, g12, g13, g14, g15, g16, g17⟩ := hF9
      have u9 : ∀ j : Nat, ¬ j = 10 → (upd zf (10 : Int32).toNatClampNeg 1) j = zf j := fun j hj => uu_else zf 1 hj
      obtain ⟨pq, f1, f2, f3, f4, f5, f6, f7, f8⟩ := ar_fin (a := y0) (z := z) (y1 := y1) (y2 := y2) (K := K) (pa := 0) (lo := lo) (up := up) (sp := -1) (we := we) (le := le) (hds := hds) (cds := cds) (zf := (upd zf (10 : Int32).toNatClampNeg 1)) (ty := ty) (A := A) (B := (wA ty X (nI n) (nI (r + 1)) tn en pl (va_up rf (nI r).toNatClampNeg (some y0)) hn kn on 0 pu gw an ch cg fb mh ml ih lb 0 nn 0)) hn6 g1 ((u9 0 (by omega)).trans g2) rfl rfl (fun e9 => by rw [u9 2 (by omega), u9 3 (by omega)]; exact g3 e9) (fun e9 => by rw [u9 2 (by omega), u9 3 (by omega)]; exact g4 e9) g5 g6 g7 (fun p9 => by rw [u9 1 (by omega)]; exact g8 p9) hcl g9 (fun p9 => by rw [u9 4 (by omega)]; exact g10 p9) (fun p9 => by rw [u9 5 (by omega)]; exact g11 p9) (fun p9 => by rw [u9 8 (by omega)]; exact g12 p9) (fun p9 => by rw [u9 9 (by omega)]; exact g13 p9) (by rw [u9 6 (by omega), u9 8 (by omega)]; exact g14) (by rw [u9 7 (by omega)]; exact g15) (by rw [u9 2 (by omega)]; exact g16) (by rw [u9 3 (by omega)]; exact g17) hD
      have hP := f7 D vwCl H hP
      refine W.widen (k := 15) (n := 105) (by omega) (by omega) ?_
      exact W.aret (v := .ref z) hx hb hr (Or.inr ⟨_, rfl⟩) (Or.inr ⟨_, rfl⟩) (fun t ht hW => ⟨⟨.ref z, (wA ty X (nI n) (nI (r + 1)) tn en pl (va_up rf (nI r).toNatClampNeg (some y0)) hn kn on 0 pu gw an ch cg fb mh ml ih lb 0 nn 0) ++ pw ty pq, rfl, ⟨pq, y0, z, hds.length, cds.length, rfl, f1, f2, f3, f4, f5, (f6 10).trans (uu_same zf 10 1), rfl⟩, wq_B.of ht hP f8⟩, hS.F ht⟩) hS.2.2 dL_addRule_612
    | succ d IH =>
      intro z y0 y1 y2 K lo up we le hds cds zf hd hF9 H locs ls hP hD hS hl
      have hcl : cds.length ≤ 3 := by omega
      refine lv_iload hx hb dL_addRule_316 (lv_at hl 7 rfl) ?_
      refine lv_aload_n hx hb dL_addRule_318 rfl (lv_at hl 1 rfl) ?_
      refine lv_iload_n hx hb dL_addRule_319 rfl (lv_at hl 2 rfl) ?_
      refine lv_bipush (v := 7) hx hb dL_addRule_320 (by decide) ?_
      refine lv_iadd hx hb dL_addRule_322 ?_
      refine lv_topi (nm_r (e' := nI (i + 7)) (nI_add i 7) ?_)
      refine lv_iconst (v := 4) hx hb dL_addRule_323 (by decide) ?_
      obtain ⟨c7, h_c7, e_c7⟩ := pick_lt L xs (nI (i + 7)) (m := 4) (by decide) (by decide)
      refine wq_iQW (ws := ((wA ty X (nI n) (nI (r + 1)) tn en pl (va_up rf (nI r).toNatClampNeg (some y0)) hn kn on 0 pu gw an ch cg fb mh ml ih lb 0 nn 0) ++ [(z, .inl (ty 0, 11, .inl zf)), (y0, .inr (10, [.int K, .int 0, .int lo, .int up, .int (-1), .int we, .int le, .ref y1, .int (nI hds.length), .ref y2, .int (nI cds.length)])), (y1, .inl (ty 5, 2, .inr (.inr (.inr (.inr (hF hds)))))), (y2, .inl (ty 5, 5, .inr (.inr (.inr (.inr (cF cds))))))])) (pl := (hds.map lH ++ cds.map lC)) (wc := []) (va_runS (As := [.ref b, .int (nI (i + 7)), .int (nI 4)]) (rest := [.int (nI cds.length)]) ⟨hx, hb, hml, hown, hts⟩ (k_L_pick l D ty td mi H.size L xs b (nI (i + 7)) (nI 4) (kI_nn (by omega)) (by decide) hL (nI c7) e_c7.symm) (va_cwS 3 hts gv_k_L_addRule_L_pick rfl rfl rfl (by decide +kernel) ⟨(Nat.le_of_ble_eq_true rfl), (Nat.le_of_ble_eq_true rfl)⟩) (wq_preSS (wm_preS (vP_left hP) (vD_left hD) hK hE hS hA [] rfl) hX hbl hbA hS (wm_free (vD_left hD) hS hA [] rfl)) rfl rfl hl.1 rfl (lv_room (Nat.le_of_ble_eq_true rfl)) dL_addRule_324 ⟨(by show 9 + 2 * cds.length + 0 ≤ 15; omega), (by show 63 + 14 * cds.length + 0 ≤ 105; omega)⟩) hS hA hP hD [] rfl (fun _ _ h => by rcases h with ⟨-, rfl⟩; rfl) (fun rr u H locs hw hP hD hS => ?_)
      obtain ⟨rfl, rfl⟩ := hw
      have hP : va_P D vwCl (((wA ty X (nI n) (nI (r + 1)) tn en pl (va_up rf (nI r).toNatClampNeg (some y0)) hn kn on 0 pu gw an ch cg fb mh ml ih lb 0 nn 0) ++ [(z, .inl (ty 0, 11, .inl zf)), (y0, .inr (10, [.int K, .int 0, .int lo, .int up, .int (-1), .int we, .int le, .ref y1, .int (nI hds.length), .ref y2, .int (nI cds.length)])), (y1, .inl (ty 5, 2, .inr (.inr (.inr (.inr (hF hds)))))), (y2, .inl (ty 5, 5, .inr (.inr (.inr (.inr (cF cds))))))]) ++ (hds.map lH ++ cds.map lC)) H := hP
      have hD : va_D A (((wA ty X (nI n) (nI (r + 1)) tn en pl (va_up rf (nI r).toNatClampNeg (some y0)) hn kn on 0 pu gw an ch cg fb mh ml ih lb 0 nn 0) ++ [(z, .inl (ty 0, 11, .inl zf)), (y0, .inr (10, [.int K, .int 0, .int lo, .int up, .int (-1), .int we, .int le, .ref y1, .int (nI hds.length), .ref y2, .int (nI cds.length)])), (y1, .inl (ty 5, 2, .inr (.inr (.inr (.inr (hF hds)))))), (y2, .inl (ty 5, 5, .inr (.inr (.inr (.inr (cF cds))))))]) ++ (hds.map lH ++ cds.map lC)) := hD
      refine W.widen (k := 9 + 2 * cds.length) (n := 63 + 14 * cds.length) (by omega) (by omega) ?_
      by_cases dk : cds.length < c7
      · refine lv_icmp_ge (tgt := 600) hx hb dL_addRule_327 (by decide) (fun c0 => (nle (a := c7) (b := cds.length) dk (by omega) c0).elim) (fun _ => ?_)
        refine lv_aload_n hx hb dL_addRule_330 rfl (lv_at hl 1 rfl) ?_
        refine lv_iload_n hx hb dL_addRule_331 rfl (lv_at hl 2 rfl) ?_
        refine lv_bipush (v := 8) hx hb dL_addRule_332 (by decide) ?_
        refine lv_iadd hx hb dL_addRule_334 ?_
        refine lv_topi (nm_r (e' := nI (i + 8)) (nI_add i 8) ?_)
        refine lv_iconst (v := 3) hx hb dL_addRule_335 (by decide) ?_
        refine lv_iload hx hb dL_addRule_336 (lv_at hl 7 rfl) ?_
        refine lv_imul hx hb dL_addRule_338 ?_
        refine lv_topi (nm_r (e' := nI (3 * cds.length)) (mul3 (by omega)) ?_)
        refine lv_iadd hx hb dL_addRule_339 ?_
        refine lv_topi (nm_r (e' := nI (i + 8 + 3 * cds.length)) (nI_add _ _) ?_)
        refine lv_iload_n hx hb dL_addRule_340 rfl (lv_at hl 3 rfl) ?_
        obtain ⟨p1, h_p1, e_p1⟩ := pick_lt L xs (nI (i + 8 + 3 * cds.length)) (m := n) hn0 (by omega)
        refine wq_iQW (ws := ((wA ty X (nI n) (nI (r + 1)) tn en pl (va_up rf (nI r).toNatClampNeg (some y0)) hn kn on 0 pu gw an ch cg fb mh ml ih lb 0 nn 0) ++ [(z, .inl (ty 0, 11, .inl zf)), (y0, .inr (10, [.int K, .int 0, .int lo, .int up, .int (-1), .int we, .int le, .ref y1, .int (nI hds.length), .ref y2, .int (nI cds.length)])), (y1, .inl (ty 5, 2, .inr (.inr (.inr (.inr (hF hds)))))), (y2, .inl (ty 5, 5, .inr (.inr (.inr (.inr (cF cds))))))])) (pl := (hds.map lH ++ cds.map lC)) (wc := []) (va_runS (As := [.ref b, .int (nI (i + 8 + 3 * cds.length)), .int (nI n)]) (rest := []) ⟨hx, hb, hml, hown, hts⟩ (k_L_pick l D ty td mi H.size L xs b (nI (i + 8 + 3 * cds.length)) (nI n) (kI_nn (by omega)) (by rw [kI_ti (by omega)]; omega) hL (nI p1) e_p1.symm) (va_cwS 3 hts gv_k_L_addRule_L_pick rfl rfl rfl (by decide +kernel) ⟨(Nat.le_of_ble_eq_true rfl), (Nat.le_of_ble_eq_true rfl)⟩) (wq_preSS (wm_preS (vP_left hP) (vD_left hD) hK hE hS hA [] rfl) hX hbl hbA hS (wm_free (vD_left hD) hS hA [] rfl)) rfl rfl hl.1 rfl (lv_room (Nat.le_of_ble_eq_true rfl)) dL_addRule_341 ⟨(by show 9 + 2 * cds.length + 0 ≤ 15; omega), (by show 63 + 14 * cds.length + 0 ≤ 105; omega)⟩) hS hA hP hD [] rfl (fun _ _ h => by rcases h with ⟨-, rfl⟩; rfl) (fun rr u H locs hw hP hD hS => ?_)
        obtain ⟨rfl, rfl⟩ := hw
        have hP : va_P D vwCl (((wA ty X (nI n) (nI (r + 1)) tn en pl (va_up rf (nI r).toNatClampNeg (some y0)) hn kn on 0 pu gw an ch cg fb mh ml ih lb 0 nn 0) ++ [(z, .inl (ty 0, 11, .inl zf)), (y0, .inr (10, [.int K, .int 0, .int lo, .int up, .int (-1), .int we, .int le, .ref y1, .int (nI hds.length), .ref y2, .int (nI cds.length)])), (y1, .inl (ty 5, 2, .inr (.inr (.inr (.inr (hF hds)))))), (y2, .inl (ty 5, 5, .inr (.inr (.inr (.inr (cF cds))))))]) ++ (hds.map lH ++ cds.map lC)) H := hP
        have hD : va_D A (((wA ty X (nI n) (nI (r + 1)) tn en pl (va_up rf (nI r).toNatClampNeg (some y0)) hn kn on 0 pu gw an ch cg fb mh ml ih lb 0 nn 0) ++ [(z, .inl (ty 0, 11, .inl zf)), (y0, .inr (10, [.int K, .int 0, .int lo, .int up, .int (-1), .int we, .int le, .ref y1, .int (nI hds.length), .ref y2, .int (nI cds.length)])), (y1, .inl (ty 5, 2, .inr (.inr (.inr (.inr (hF hds)))))), (y2, .inl (ty 5, 5, .inr (.inr (.inr (.inr (cF cds))))))]) ++ (hds.map lH ++ cds.map lC)) := hD
        refine W.widen (k := 9 + 2 * cds.length) (n := 63 + 14 * cds.length) (by omega) (by omega) ?_
        refine lv_istore (lv' := [(11, .int (nI p1)), (0, .ref (X 0)), (1, .ref b), (2, .int (nI i)), (3, .int (nI n)), (4, .int (nI r)), (5, .ref z), (8, .int 1), (10, .int (nI cds.length))]) hx hb dL_addRule_344 hl (by decide) rfl (fun ls hl => ?_)
        refine lv_aload_n hx hb dL_addRule_346 rfl (lv_at hl 2 rfl) ?_
        refine lv_iload_n hx hb dL_addRule_347 rfl (lv_at hl 3 rfl) ?_
        refine lv_bipush (v := 9) hx hb dL_addRule_348 (by decide) ?_
        refine lv_iadd hx hb dL_addRule_350 ?_
        refine lv_topi (nm_r (e' := nI (i + 9)) (nI_add i 9) ?_)
        refine lv_iconst (v := 3) hx hb dL_addRule_351 (by decide) ?_
        refine lv_iload hx hb dL_addRule_352 (lv_at hl 8 rfl) ?_
        refine lv_imul hx hb dL_addRule_354 ?_
        refine lv_topi (nm_r (e' := nI (3 * cds.length)) (mul3 (by omega)) ?_)
        refine lv_iadd hx hb dL_addRule_355 ?_
        refine lv_topi (nm_r (e' := nI (i + 9 + 3 * cds.length)) (nI_add _ _) ?_)
        refine lv_bipush (v := 6) hx hb dL_addRule_356 (by decide) ?_
        obtain ⟨kd, h_kd, e_kd⟩ := pick_lt L xs (nI (i + 9 + 3 * cds.length)) (m := 6) (by decide) (by decide)
        refine wq_iQW (ws := ((wA ty X (nI n) (nI (r + 1)) tn en pl (va_up rf (nI r).toNatClampNeg (some y0)) hn kn on 0 pu gw an ch cg fb mh ml ih lb 0 nn 0) ++ [(z, .inl (ty 0, 11, .inl zf)), (y0, .inr (10, [.int K, .int 0, .int lo, .int up, .int (-1), .int we, .int le, .ref y1, .int (nI hds.length), .ref y2, .int (nI cds.length)])), (y1, .inl (ty 5, 2, .inr (.inr (.inr (.inr (hF hds)))))), (y2, .inl (ty 5, 5, .inr (.inr (.inr (.inr (cF cds))))))])) (pl := (hds.map lH ++ cds.map lC)) (wc := []) (va_runS (As := [.ref b, .int (nI (i + 9 + 3 * cds.length)), .int (nI 6)]) (rest := []) ⟨hx, hb, hml, hown, hts⟩ (k_L_pick l D ty td mi H.size L xs b (nI (i + 9 + 3 * cds.length)) (nI 6) (kI_nn (by omega)) (by decide) hL (nI kd) e_kd.symm) (va_cwS 3 hts gv_k_L_addRule_L_pick rfl rfl rfl (by decide +kernel) ⟨(Nat.le_of_ble_eq_true rfl), (Nat.le_of_ble_eq_true rfl)⟩) (wq_preSS (wm_preS (vP_left hP) (vD_left hD) hK hE hS hA [] rfl) hX hbl hbA hS (wm_free (vD_left hD) hS hA [] rfl)) rfl rfl hl.1 rfl (lv_room (Nat.le_of_ble_eq_true rfl)) dL_addRule_358 ⟨(by show 9 + 2 * cds.length + 0 ≤ 15; omega), (by show 63 + 14 * cds.length + 0 ≤ 105; omega)⟩) hS hA hP hD [] rfl (fun _ _ h => by rcases h with ⟨-, rfl⟩; rfl) (fun rr u H locs hw hP hD hS => ?_)
        obtain ⟨rfl, rfl⟩ := hw
        have hP : va_P D vwCl (((wA ty X (nI n) (nI (r + 1)) tn en pl (va_up rf (nI r).toNatClampNeg (some y0)) hn kn on 0 pu gw an ch cg fb mh ml ih lb 0 nn 0) ++ [(z, .inl (ty 0, 11, .inl zf)), (y0, .inr (10, [.int K, .int 0, .int lo, .int up, .int (-1), .int we, .int le, .ref y1, .int (nI hds.length), .ref y2, .int (nI cds.length)])), (y1, .inl (ty 5, 2, .inr (.inr (.inr (.inr (hF hds)))))), (y2, .inl (ty 5, 5, .inr (.inr (.inr (.inr (cF cds))))))]) ++ (hds.map lH ++ cds.map lC)) H := hP
        have hD : va_D A (((wA ty X (nI n) (nI (r + 1)) tn en pl (va_up rf (nI r).toNatClampNeg (some y0)) hn kn on 0 pu gw an ch cg fb mh ml ih lb 0 nn 0) ++ [(z, .inl (ty 0, 11, .inl zf)), (y0, .inr (10, [.int K, .int 0, .int lo, .int up, .int (-1), .int we, .int le, .ref y1, .int (nI hds.length), .ref y2, .int (nI cds.length)])), (y1, .inl (ty 5, 2, .inr (.inr (.inr (.inr (hF hds)))))), (y2, .inl (ty 5, 5, .inr (.inr (.inr (.inr (cF cds))))))]) ++ (hds.map lH ++ cds.map lC)) := hD
        refine W.widen (k := 9 + 2 * cds.length) (n := 63 + 14 * cds.length) (by omega) (by omega) ?_
        refine lv_istore (lv' := [(12, .int (nI kd)), (11, .int (nI p1)), (0, .ref (X 0)), (1, .ref b), (2, .int (nI i)), (3, .int (nI n)), (4, .int (nI r)), (5, .ref z), (8, .int 1), (10, .int (nI cds.length))]) hx hb dL_addRule_361 hl (by decide) rfl (fun ls hl => ?_)
        refine lv_iload hx hb dL_addRule_363 (lv_at hl 0 rfl) ?_
        refine lv_iconst (v := 5) hx hb dL_addRule_365 (by decide) ?_
        have hlen : ∀ w9 : Nat × Int32 × Nat × Int32, (cds ++ [w9]).length = cds.length + 1 := fun w9 => by rw [List.length_append]; rfl
        by_cases d5 : kd < 5
        · by_cases d3 : kd < 3
          · refine lv_icmp_ge (tgt := 455) hx hb dL_addRule_366 (by decide) (fun c0 => (nle (a := 5) (b := kd) d5 (by omega) c0).elim) (fun _ => ?_)
            refine lv_iload hx hb dL_addRule_369 (lv_at hl 8 rfl) ?_
            refine lv_if_eq (tgt := 407) hx hb dL_addRule_371 (by decide) (fun c0 => ((absurd c0 (by decide) : False)).elim) (fun _ => ?_)
            refine lv_aload_n hx hb dL_addRule_374 rfl (lv_at hl 2 rfl) ?_
            refine lv_iload hx hb dL_addRule_375 (lv_at hl 6 rfl) ?_
            refine lv_iload hx hb dL_addRule_377 (lv_at hl 0 rfl) ?_
            refine lv_iconst (v := 3) hx hb dL_addRule_379 (by decide) ?_
            refine lv_icmp_ge (tgt := 387) hx hb dL_addRule_380 (by decide) (fun c0 => (nle (a := 3) (b := kd) d3 (by omega) c0).elim) (fun _ => ?_)
            refine lv_iconst (v := 1) hx hb dL_addRule_383 (by decide) ?_
            refine lv_goto (tgt := 388) hx hb dL_addRule_384 (by decide) ?_
            refine lv_iload hx hb dL_addRule_388 (lv_at hl 1 rfl) ?_
            refine lv_bipush (v := 77) hx hb dL_addRule_390 (by decide) ?_
            refine lv_iconst (v := 0) hx hb dL_addRule_392 (by decide) ?_
            refine wq_iW (wc := (wW_k_L_atom_1 ty X y0 y1 y2 (nI n) (nI (r + 1)) tn en pl (va_up rf (nI r).toNatClampNeg (some y0)) hn kn on 0 pu gw an ch cg fb mh ml ih lb 0 nn 0 K 0 lo up (-1) we le (nI hds.length) (nI cds.length) (cF cds))) (va_runS (As := [.ref (X 0), .int (nI r), .int 1, .int (nI p1), .int 77, .int 0]) (rest := []) ⟨hx, hb, hml, hown, hts⟩ (k_L_atom_1 l hl9 D ty td mi H.size X (nI n) (nI (r + 1)) tn en pl (va_up rf (nI r).toNatClampNeg (some y0)) hn kn on 0 pu gw an ch cg fb mh ml ih lb 0 nn 0 y0 K 0 lo up (-1) we le y1 (nI hds.length) y2 (nI cds.length) (cF cds) (nI r) (nI p1) 77 0 (fun o ho => by rw [e_ruleAt hr20 rf y0] at ho; exact (Option.some.inj ho).symm) (2, nI (cds.length + 1), 116, nI p1, 0, 0, 0, 0, 0, 0, 0, 0, 0, nI (cds.length + 1)) ((e_atom1 hn6 h_p1 (hpl p1 h_p1) (by omega : cds.length < 5) (e_ruleAt hr20 rf y0) 0 0 0 (-1) 77 0).symm)) (va_cwS 6 hts gv_k_L_addRule_L_atom_1 rfl rfl rfl (by decide +kernel) ⟨(Nat.le_of_ble_eq_true rfl), (Nat.le_of_ble_eq_true rfl)⟩) (wm_preS hP hD hK hE hS hA [true, true, true, true, true, true, true, false, true, false, true] rfl) rfl rfl hl.1 rfl (lv_room (Nat.le_of_ble_eq_true rfl)) dL_addRule_393 ⟨(by show 9 + 2 * cds.length + 2 ≤ 15; omega), (by show 63 + 14 * cds.length + 14 ≤ 105; omega)⟩) hS hA hP hD [true, true, true, true, true, true, true, false, true, false, true] rfl (fun _ _ h => by rcases h with ⟨-, -, rfl⟩ | ⟨_, -, -, rfl⟩ | ⟨_, -, -, rfl⟩ <;> rfl) (fun rr u H locs hw hP hD hS => ?_)
            rcases hw with ⟨c0, -, -⟩ | ⟨_, c0, -, -⟩ | ⟨q9, -, rfl, rfl⟩
            · exact absurd (show (2 : Int32) = 0 from c0) (by decide)
            · exact absurd (show (2 : Int32) = 1 from c0) (by decide)
            have hP : va_P D vwCl (((wA ty X (nI n) (nI (r + 1)) tn en pl (va_up rf (nI r).toNatClampNeg (some y0)) hn kn on 0 pu gw an ch cg fb mh ml ih lb 0 nn 0) ++ [(z, .inl (ty 0, 11, .inl zf)), (y0, .inr (10, [.int K, .int 0, .int lo, .int up, .int (-1), .int we, .int le, .ref y1, .int (nI hds.length), .ref y2, .int (nI (cds.length + 1))])), (y1, .inl (ty 5, 2, .inr (.inr (.inr (.inr (hF hds)))))), (y2, .inl (ty 5, 5, .inr (.inr (.inr (.inr (va_up (cF cds) (nI cds.length).toNatClampNeg (some q9)))))))]) ++ ((hds.map lH ++ cds.map lC) ++ [lC (q9, 116, p1, 0)])) H := hP
            have hD : va_D A (((wA ty X (nI n) (nI (r + 1)) tn en pl (va_up rf (nI r).toNatClampNeg (some y0)) hn kn on 0 pu gw an ch cg fb mh ml ih lb 0 nn 0) ++ [(z, .inl (ty 0, 11, .inl zf)), (y0, .inr (10, [.int K, .int 0, .int lo, .int up, .int (-1), .int we, .int le, .ref y1, .int (nI hds.length), .ref y2, .int (nI (cds.length + 1))])), (y1, .inl (ty 5, 2, .inr (.inr (.inr (.inr (hF hds)))))), (y2, .inl (ty 5, 5, .inr (.inr (.inr (.inr (va_up (cF cds) (nI cds.length).toNatClampNeg (some q9)))))))]) ++ ((hds.map lH ++ cds.map lC) ++ [lC (q9, 116, p1, 0)])) := hD
            refine W.widen (k := 11 + 2 * cds.length) (n := 77 + 14 * cds.length) (by omega) (by omega) ?_
            have e9 : (hds.map lH ++ cds.map lC) ++ [lC (q9, 116, p1, 0)] = hds.map lH ++ (cds ++ [(q9, 116, p1, 0)]).map lC := lits_addC hds cds (q9, 116, p1, 0)
            rw [e9, kI_nat (show cds.length < 2147483648 by omega), cF_add cds q9 (116, p1, 0)] at hP hD
            refine lv_iload hx hb dL_addRule_396 (lv_at hl 9 rfl) ?_
            refine lv_iconst (v := 1) hx hb dL_addRule_398 (by decide) ?_
            refine lv_iadd hx hb dL_addRule_399 ?_
            refine lv_topi (nm_r (e' := nI (cds.length + 1)) (kI_s _) ?_)
            refine lv_icmp_ne (tgt := 407) hx hb dL_addRule_400 (by decide) (fun c0 => (c0 rfl).elim) (fun _ => ?_)
            refine lv_iconst (v := 1) hx hb dL_addRule_403 (by decide) ?_
            refine lv_goto (tgt := 408) hx hb dL_addRule_404 (by decide) ?_
            refine lv_istore (lv' := [(8, .int 1), (12, .int (nI kd)), (11, .int (nI p1)), (0, .ref (X 0)), (1, .ref b), (2, .int (nI i)), (3, .int (nI n)), (4, .int (nI r)), (5, .ref z), (10, .int (nI cds.length))]) hx hb dL_addRule_408 hl (by decide) rfl (fun ls hl => ?_)
            refine lv_aload hx hb dL_addRule_410 (lv_at hl 8 rfl) ?_
            refine lv_iconst (v := 4) hx hb dL_addRule_412 (by decide) ?_
            refine lv_dup2_11 hx hb dL_addRule_413 rfl rfl ?_
            refine va_iald (D := D) hx hb hK hP 7 0 rfl rfl (wi_in (by decide) (by decide)) dL_addRule_414 ?_
            refine lv_iload hx hb dL_addRule_415 (lv_at hl 1 rfl) ?_
            refine lv_iconst (v := 3) hx hb dL_addRule_417 (by decide) ?_
            refine lv_icmp_ge (tgt := 428) hx hb dL_addRule_418 (by decide) (fun c0 => (nle (a := 3) (b := kd) d3 (by omega) c0).elim) (fun _ => ?_)
            refine lv_iconst (v := 1) hx hb dL_addRule_421 (by decide) ?_
            refine lv_iload hx hb dL_addRule_422 (lv_at hl 2 rfl) ?_
            refine lv_ishl hx hb dL_addRule_424 ?_
            refine lv_goto (tgt := 429) hx hb dL_addRule_425 (by decide) ?_
            refine lv_ior hx hb dL_addRule_429 ?_
            refine va_iast (D := D) hx hb hK hP hD hS 7 0 rfl rfl (wi_in (by decide) (by decide)) dL_addRule_430 (fun H locs hP hD hS => ?_)
            have hP : va_P D vwCl (((wA ty X (nI n) (nI (r + 1)) tn en pl (va_up rf (nI r).toNatClampNeg (some y0)) hn kn on 0 pu gw an ch cg fb mh ml ih lb 0 nn 0) ++ [(z, .inl (ty 0, 11, .inl (upd zf (4 : Int32).toNatClampNeg (zf (4 : Int32).toNatClampNeg ||| ((1 : Int32) <<< (nI p1 &&& 31)))))), (y0, .inr (10, [.int K, .int 0, .int lo, .int up, .int (-1), .int we, .int le, .ref y1, .int (nI hds.length), .ref y2, .int (nI (cds.length + 1))])), (y1, .inl (ty 5, 2, .inr (.inr (.inr (.inr (hF hds)))))), (y2, .inl (ty 5, 5, .inr (.inr (.inr (.inr (cF (cds ++ [(q9, 116, p1, 0)])))))))]) ++ (hds.map lH ++ (cds ++ [(q9, 116, p1, 0)]).map lC)) H := hP
            have hD : va_D A (((wA ty X (nI n) (nI (r + 1)) tn en pl (va_up rf (nI r).toNatClampNeg (some y0)) hn kn on 0 pu gw an ch cg fb mh ml ih lb 0 nn 0) ++ [(z, .inl (ty 0, 11, .inl (upd zf (4 : Int32).toNatClampNeg (zf (4 : Int32).toNatClampNeg ||| ((1 : Int32) <<< (nI p1 &&& 31)))))), (y0, .inr (10, [.int K, .int 0, .int lo, .int up, .int (-1), .int we, .int le, .ref y1, .int (nI hds.length), .ref y2, .int (nI (cds.length + 1))])), (y1, .inl (ty 5, 2, .inr (.inr (.inr (.inr (hF hds)))))), (y2, .inl (ty 5, 5, .inr (.inr (.inr (.inr (cF (cds ++ [(q9, 116, p1, 0)])))))))]) ++ (hds.map lH ++ (cds ++ [(q9, 116, p1, 0)]).map lC)) := hD
            refine lv_aload hx hb dL_addRule_431 (lv_at hl 8 rfl) ?_
            refine lv_iconst (v := 5) hx hb dL_addRule_433 (by decide) ?_
            refine lv_dup2_11 hx hb dL_addRule_434 rfl rfl ?_
            refine va_iald (D := D) hx hb hK hP 7 0 rfl rfl (wi_in (by decide) (by decide)) dL_addRule_435 ?_
            refine lv_iload hx hb dL_addRule_436 (lv_at hl 1 rfl) ?_
            refine lv_iconst (v := 3) hx hb dL_addRule_438 (by decide) ?_
            refine lv_icmp_ge (tgt := 446) hx hb dL_addRule_439 (by decide) (fun c0 => (nle (a := 3) (b := kd) d3 (by omega) c0).elim) (fun _ => ?_)
            refine lv_iconst (v := 0) hx hb dL_addRule_442 (by decide) ?_
            refine lv_goto (tgt := 450) hx hb dL_addRule_443 (by decide) ?_
            refine lv_ior hx hb dL_addRule_450 ?_
            refine va_iast (D := D) hx hb hK hP hD hS 7 0 rfl rfl (wi_in (by decide) (by decide)) dL_addRule_451 (fun H locs hP hD hS => ?_)
            have hP : va_P D vwCl (((wA ty X (nI n) (nI (r + 1)) tn en pl (va_up rf (nI r).toNatClampNeg (some y0)) hn kn on 0 pu gw an ch cg fb mh ml ih lb 0 nn 0) ++ [(z, .inl (ty 0, 11, .inl (upd (upd zf (4 : Int32).toNatClampNeg (zf (4 : Int32).toNatClampNeg ||| ((1 : Int32) <<< (nI p1 &&& 31)))) (5 : Int32).toNatClampNeg ((upd zf (4 : Int32).toNatClampNeg (zf (4 : Int32).toNatClampNeg ||| ((1 : Int32) <<< (nI p1 &&& 31)))) (5 : Int32).toNatClampNeg ||| 0)))), (y0, .inr (10, [.int K, .int 0, .int lo, .int up, .int (-1), .int we, .int le, .ref y1, .int (nI hds.length), .ref y2, .int (nI (cds.length + 1))])), (y1, .inl (ty 5, 2, .inr (.inr (.inr (.inr (hF hds)))))), (y2, .inl (ty 5, 5, .inr (.inr (.inr (.inr (cF (cds ++ [(q9, 116, p1, 0)])))))))]) ++ (hds.map lH ++ (cds ++ [(q9, 116, p1, 0)]).map lC)) H := hP
            have hD : va_D A (((wA ty X (nI n) (nI (r + 1)) tn en pl (va_up rf (nI r).toNatClampNeg (some y0)) hn kn on 0 pu gw an ch cg fb mh ml ih lb 0 nn 0) ++ [(z, .inl (ty 0, 11, .inl (upd (upd zf (4 : Int32).toNatClampNeg (zf (4 : Int32).toNatClampNeg ||| ((1 : Int32) <<< (nI p1 &&& 31)))) (5 : Int32).toNatClampNeg ((upd zf (4 : Int32).toNatClampNeg (zf (4 : Int32).toNatClampNeg ||| ((1 : Int32) <<< (nI p1 &&& 31)))) (5 : Int32).toNatClampNeg ||| 0)))), (y0, .inr (10, [.int K, .int 0, .int lo, .int up, .int (-1), .int we, .int le, .ref y1, .int (nI hds.length), .ref y2, .int (nI (cds.length + 1))])), (y1, .inl (ty 5, 2, .inr (.inr (.inr (.inr (hF hds)))))), (y2, .inl (ty 5, 5, .inr (.inr (.inr (.inr (cF (cds ++ [(q9, 116, p1, 0)])))))))]) ++ (hds.map lH ++ (cds ++ [(q9, 116, p1, 0)]).map lC)) := hD
            refine lv_goto (tgt := 594) hx hb dL_addRule_452 (by decide) ?_
            refine lv_iinc (v := nI (cds.length + 1)) (lv' := [(10, .int (nI (cds.length + 1))), (8, .int 1), (12, .int (nI kd)), (11, .int (nI p1)), (0, .ref (X 0)), (1, .ref b), (2, .int (nI i)), (3, .int (nI n)), (4, .int (nI r)), (5, .ref z)]) hx hb dL_addRule_594 hl (k := 9) rfl (kI_s _) (by decide) rfl (fun ls hl => ?_)
            refine lv_goto (tgt := 316) hx hb dL_addRule_597 (by decide) ?_
            have hl : lv_has ls 14 [(0, .ref (X 0)), (1, .ref b), (2, .int (nI i)), (3, .int (nI n)), (4, .int (nI r)), (5, .ref z), (8, .int 1), (10, .int (nI (cds.length + 1)))] := lv_sub hl [4, 5, 6, 7, 8, 9, 1, 0] rfl
            have I2 := IH z y0 y1 y2 K lo up we le hds (cds ++ [(q9, 116, p1, 0)]) (upd (upd zf (4 : Int32).toNatClampNeg (zf (4 : Int32).toNatClampNeg ||| ((1 : Int32) <<< (nI p1 &&& 31)))) (5 : Int32).toNatClampNeg ((upd zf (4 : Int32).toNatClampNeg (zf (4 : Int32).toNatClampNeg ||| ((1 : Int32) <<< (nI p1 &&& 31)))) (5 : Int32).toNatClampNeg ||| 0)) (by rw [hlen]; omega) (rwF_T hF9 (q := q9) h_p1 (by omega))
            rw [hlen] at I2
            refine W.widen (k := 9 + 2 * (cds.length + 1)) (n := 63 + 14 * (cds.length + 1)) (by omega) (by omega) ?_
            exact I2 H locs ls hP hD hS hl
          · refine lv_icmp_ge (tgt := 455) hx hb dL_addRule_366 (by decide) (fun c0 => (nle (a := 5) (b := kd) d5 (by omega) c0).elim) (fun _ => ?_)
            refine lv_iload hx hb dL_addRule_369 (lv_at hl 8 rfl) ?_
            refine lv_if_eq (tgt := 407) hx hb dL_addRule_371 (by decide) (fun c0 => ((absurd c0 (by decide) : False)).elim) (fun _ => ?_)
            refine lv_aload_n hx hb dL_addRule_374 rfl (lv_at hl 2 rfl) ?_
            refine lv_iload hx hb dL_addRule_375 (lv_at hl 6 rfl) ?_
            refine lv_iload hx hb dL_addRule_377 (lv_at hl 0 rfl) ?_
            refine lv_iconst (v := 3) hx hb dL_addRule_379 (by decide) ?_
            refine lv_icmp_ge (tgt := 387) hx hb dL_addRule_380 (by decide) (fun _ => ?_) (fun c0 => (c0 ((kI_le (a := 3) (b := kd) (by omega) (by omega)).mpr (by omega))).elim)
            refine lv_iconst (v := 0) hx hb dL_addRule_387 (by decide) ?_
            refine lv_iload hx hb dL_addRule_388 (lv_at hl 1 rfl) ?_
            refine lv_bipush (v := 77) hx hb dL_addRule_390 (by decide) ?_
            refine lv_iconst (v := 0) hx hb dL_addRule_392 (by decide) ?_
            refine wq_iW (wc := (wW_k_L_atom_0 ty X y0 y1 y2 (nI n) (nI (r + 1)) tn en pl (va_up rf (nI r).toNatClampNeg (some y0)) hn kn on 0 pu gw an ch cg fb mh ml ih lb 0 nn 0 K 0 lo up (-1) we le (nI hds.length) (nI cds.length) (cF cds))) (va_runS (As := [.ref (X 0), .int (nI r), .int 0, .int (nI p1), .int 77, .int 0]) (rest := []) ⟨hx, hb, hml, hown, hts⟩ (k_L_atom_0 l hl9 D ty td mi H.size X (nI n) (nI (r + 1)) tn en pl (va_up rf (nI r).toNatClampNeg (some y0)) hn kn on 0 pu gw an ch cg fb mh ml ih lb 0 nn 0 y0 K 0 lo up (-1) we le y1 (nI hds.length) y2 (nI cds.length) (cF cds) (nI r) (nI p1) 77 0 (fun o ho => by rw [e_ruleAt hr20 rf y0] at ho; exact (Option.some.inj ho).symm) (2, nI (cds.length + 1), 102, nI p1, 0, 0, 0, 0, 0, 0, 0, 0, 0, nI (cds.length + 1)) ((e_atom0 hn6 h_p1 (hpl p1 h_p1) (by omega : cds.length < 5) (e_ruleAt hr20 rf y0) 0 0 0 (-1) 77 0).symm)) (va_cwS 6 hts gv_k_L_addRule_L_atom_0 rfl rfl rfl (by decide +kernel) ⟨(Nat.le_of_ble_eq_true rfl), (Nat.le_of_ble_eq_true rfl)⟩) (wm_preS hP hD hK hE hS hA [true, true, true, true, true, true, true, false, true, false, true] rfl) rfl rfl hl.1 rfl (lv_room (Nat.le_of_ble_eq_true rfl)) dL_addRule_393 ⟨(by show 9 + 2 * cds.length + 2 ≤ 15; omega), (by show 63 + 14 * cds.length + 14 ≤ 105; omega)⟩) hS hA hP hD [true, true, true, true, true, true, true, false, true, false, true] rfl (fun _ _ h => by rcases h with ⟨-, -, rfl⟩ | ⟨_, -, -, rfl⟩ | ⟨_, -, -, rfl⟩ <;> rfl) (fun rr u H locs hw hP hD hS => ?_)
            rcases hw with ⟨c0, -, -⟩ | ⟨_, c0, -, -⟩ | ⟨q9, -, rfl, rfl⟩
            · exact absurd (show (2 : Int32) = 0 from c0) (by decide)
            · exact absurd (show (2 : Int32) = 1 from c0) (by decide)
            have hP : va_P D vwCl (((wA ty X (nI n) (nI (r + 1)) tn en pl (va_up rf (nI r).toNatClampNeg (some y0)) hn kn on 0 pu gw an ch cg fb mh ml ih lb 0 nn 0) ++ [(z, .inl (ty 0, 11, .inl zf)), (y0, .inr (10, [.int K, .int 0, .int lo, .int up, .int (-1), .int we, .int le, .ref y1, .int (nI hds.length), .ref y2, .int (nI (cds.length + 1))])), (y1, .inl (ty 5, 2, .inr (.inr (.inr (.inr (hF hds)))))), (y2, .inl (ty 5, 5, .inr (.inr (.inr (.inr (va_up (cF cds) (nI cds.length).toNatClampNeg (some q9)))))))]) ++ ((hds.map lH ++ cds.map lC) ++ [lC (q9, 102, p1, 0)])) H := hP
            have hD : va_D A (((wA ty X (nI n) (nI (r + 1)) tn en pl (va_up rf (nI r).toNatClampNeg (some y0)) hn kn on 0 pu gw an ch cg fb mh ml ih lb 0 nn 0) ++ [(z, .inl (ty 0, 11, .inl zf)), (y0, .inr (10, [.int K, .int 0, .int lo, .int up, .int (-1), .int we, .int le, .ref y1, .int (nI hds.length), .ref y2, .int (nI (cds.length + 1))])), (y1, .inl (ty 5, 2, .inr (.inr (.inr (.inr (hF hds)))))), (y2, .inl (ty 5, 5, .inr (.inr (.inr (.inr (va_up (cF cds) (nI cds.length).toNatClampNeg (some q9)))))))]) ++ ((hds.map lH ++ cds.map lC) ++ [lC (q9, 102, p1, 0)])) := hD
            refine W.widen (k := 11 + 2 * cds.length) (n := 77 + 14 * cds.length) (by omega) (by omega) ?_
            have e9 : (hds.map lH ++ cds.map lC) ++ [lC (q9, 102, p1, 0)] = hds.map lH ++ (cds ++ [(q9, 102, p1, 0)]).map lC := lits_addC hds cds (q9, 102, p1, 0)
            rw [e9, kI_nat (show cds.length < 2147483648 by omega), cF_add cds q9 (102, p1, 0)] at hP hD
            refine lv_iload hx hb dL_addRule_396 (lv_at hl 9 rfl) ?_
            refine lv_iconst (v := 1) hx hb dL_addRule_398 (by decide) ?_
            refine lv_iadd hx hb dL_addRule_399 ?_
            refine lv_topi (nm_r (e' := nI (cds.length + 1)) (kI_s _) ?_)
            refine lv_icmp_ne (tgt := 407) hx hb dL_addRule_400 (by decide) (fun c0 => (c0 rfl).elim) (fun _ => ?_)
            refine lv_iconst (v := 1) hx hb dL_addRule_403 (by decide) ?_
            refine lv_goto (tgt := 408) hx hb dL_addRule_404 (by decide) ?_
            refine lv_istore (lv' := [(8, .int 1), (12, .int (nI kd)), (11, .int (nI p1)), (0, .ref (X 0)), (1, .ref b), (2, .int (nI i)), (3, .int (nI n)), (4, .int (nI r)), (5, .ref z), (10, .int (nI cds.length))]) hx hb dL_addRule_408 hl (by decide) rfl (fun ls hl => ?_)
            refine lv_aload hx hb dL_addRule_410 (lv_at hl 8 rfl) ?_
            refine lv_iconst (v := 4) hx hb dL_addRule_412 (by decide) ?_
            refine lv_dup2_11 hx hb dL_addRule_413 rfl rfl ?_
            refine va_iald (D := D) hx hb hK hP 7 0 rfl rfl (wi_in (by decide) (by decide)) dL_addRule_414 ?_
            refine lv_iload hx hb dL_addRule_415 (lv_at hl 1 rfl) ?_
            refine lv_iconst (v := 3) hx hb dL_addRule_417 (by decide) ?_
            refine lv_icmp_ge (tgt := 428) hx hb dL_addRule_418 (by decide) (fun _ => ?_) (fun c0 => (c0 ((kI_le (a := 3) (b := kd) (by omega) (by omega)).mpr (by omega))).elim)
            refine lv_iconst (v := 0) hx hb dL_addRule_428 (by decide) ?_
            refine lv_ior hx hb dL_addRule_429 ?_
            refine va_iast (D := D) hx hb hK hP hD hS 7 0 rfl rfl (wi_in (by decide) (by decide)) dL_addRule_430 (fun H locs hP hD hS => ?_)
            have hP : va_P D vwCl (((wA ty X (nI n) (nI (r + 1)) tn en pl (va_up rf (nI r).toNatClampNeg (some y0)) hn kn on 0 pu gw an ch cg fb mh ml ih lb 0 nn 0) ++ [(z, .inl (ty 0, 11, .inl (upd zf (4 : Int32).toNatClampNeg (zf (4 : Int32).toNatClampNeg ||| 0)))), (y0, .inr (10, [.int K, .int 0, .int lo, .int up, .int (-1), .int we, .int le, .ref y1, .int (nI hds.length), .ref y2, .int (nI (cds.length + 1))])), (y1, .inl (ty 5, 2, .inr (.inr (.inr (.inr (hF hds)))))), (y2, .inl (ty 5, 5, .inr (.inr (.inr (.inr (cF (cds ++ [(q9, 102, p1, 0)])))))))]) ++ (hds.map lH ++ (cds ++ [(q9, 102, p1, 0)]).map lC)) H := hP
            have hD : va_D A (((wA ty X (nI n) (nI (r + 1)) tn en pl (va_up rf (nI r).toNatClampNeg (some y0)) hn kn on 0 pu gw an ch cg fb mh ml ih lb 0 nn 0) ++ [(z, .inl (ty 0, 11, .inl (upd zf (4 : Int32).toNatClampNeg (zf (4 : Int32).toNatClampNeg ||| 0)))), (y0, .inr (10, [.int K, .int 0, .int lo, .int up, .int (-1), .int we, .int le, .ref y1, .int (nI hds.length), .ref y2, .int (nI (cds.length + 1))])), (y1, .inl (ty 5, 2, .inr (.inr (.inr (.inr (hF hds)))))), (y2, .inl (ty 5, 5, .inr (.inr (.inr (.inr (cF (cds ++ [(q9, 102, p1, 0)])))))))]) ++ (hds.map lH ++ (cds ++ [(q9, 102, p1, 0)]).map lC)) := hD
            refine lv_aload hx hb dL_addRule_431 (lv_at hl 8 rfl) ?_
            refine lv_iconst (v := 5) hx hb dL_addRule_433 (by decide) ?_
            refine lv_dup2_11 hx hb dL_addRule_434 rfl rfl ?_
            refine va_iald (D := D) hx hb hK hP 7 0 rfl rfl (wi_in (by decide) (by decide)) dL_addRule_435 ?_
            refine lv_iload hx hb dL_addRule_436 (lv_at hl 1 rfl) ?_
            refine lv_iconst (v := 3) hx hb dL_addRule_438 (by decide) ?_
            refine lv_icmp_ge (tgt := 446) hx hb dL_addRule_439 (by decide) (fun _ => ?_) (fun c0 => (c0 ((kI_le (a := 3) (b := kd) (by omega) (by omega)).mpr (by omega))).elim)
            refine lv_iconst (v := 1) hx hb dL_addRule_446 (by decide) ?_
            refine lv_iload hx hb dL_addRule_447 (lv_at hl 2 rfl) ?_
            refine lv_ishl hx hb dL_addRule_449 ?_
            refine lv_ior hx hb dL_addRule_450 ?_
            refine va_iast (D := D) hx hb hK hP hD hS 7 0 rfl rfl (wi_in (by decide) (by decide)) dL_addRule_451 (fun H locs hP hD hS => ?_)
            have hP : va_P D vwCl (((wA ty X (nI n) (nI (r + 1)) tn en pl (va_up rf (nI r).toNatClampNeg (some y0)) hn kn on 0 pu gw an ch cg fb mh ml ih lb 0 nn 0) ++ [(z, .inl (ty 0, 11, .inl (upd (upd zf (4 : Int32).toNatClampNeg (zf (4 : Int32).toNatClampNeg ||| 0)) (5 : Int32).toNatClampNeg ((upd zf (4 : Int32).toNatClampNeg (zf (4 : Int32).toNatClampNeg ||| 0)) (5 : Int32).toNatClampNeg ||| ((1 : Int32) <<< (nI p1 &&& 31)))))), (y0, .inr (10, [.int K, .int 0, .int lo, .int up, .int (-1), .int we, .int le, .ref y1, .int (nI hds.length), .ref y2, .int (nI (cds.length + 1))])), (y1, .inl (ty 5, 2, .inr (.inr (.inr (.inr (hF hds)))))), (y2, .inl (ty 5, 5, .inr (.inr (.inr (.inr (cF (cds ++ [(q9, 102, p1, 0)])))))))]) ++ (hds.map lH ++ (cds ++ [(q9, 102, p1, 0)]).map lC)) H := hP
            have hD : va_D A (((wA ty X (nI n) (nI (r + 1)) tn en pl (va_up rf (nI r).toNatClampNeg (some y0)) hn kn on 0 pu gw an ch cg fb mh ml ih lb 0 nn 0) ++ [(z, .inl (ty 0, 11, .inl (upd (upd zf (4 : Int32).toNatClampNeg (zf (4 : Int32).toNatClampNeg ||| 0)) (5 : Int32).toNatClampNeg ((upd zf (4 : Int32).toNatClampNeg (zf (4 : Int32).toNatClampNeg ||| 0)) (5 : Int32).toNatClampNeg ||| ((1 : Int32) <<< (nI p1 &&& 31)))))), (y0, .inr (10, [.int K, .int 0, .int lo, .int up, .int (-1), .int we, .int le, .ref y1, .int (nI hds.length), .ref y2, .int (nI (cds.length + 1))])), (y1, .inl (ty 5, 2, .inr (.inr (.inr (.inr (hF hds)))))), (y2, .inl (ty 5, 5, .inr (.inr (.inr (.inr (cF (cds ++ [(q9, 102, p1, 0)])))))))]) ++ (hds.map lH ++ (cds ++ [(q9, 102, p1, 0)]).map lC)) := hD
            refine lv_goto (tgt := 594) hx hb dL_addRule_452 (by decide) ?_
            refine lv_iinc (v := nI (cds.length + 1)) (lv' := [(10, .int (nI (cds.length + 1))), (8, .int 1), (12, .int (nI kd)), (11, .int (nI p1)), (0, .ref (X 0)), (1, .ref b), (2, .int (nI i)), (3, .int (nI n)), (4, .int (nI r)), (5, .ref z)]) hx hb dL_addRule_594 hl (k := 9) rfl (kI_s _) (by decide) rfl (fun ls hl => ?_)
            refine lv_goto (tgt := 316) hx hb dL_addRule_597 (by decide) ?_
            have hl : lv_has ls 14 [(0, .ref (X 0)), (1, .ref b), (2, .int (nI i)), (3, .int (nI n)), (4, .int (nI r)), (5, .ref z), (8, .int 1), (10, .int (nI (cds.length + 1)))] := lv_sub hl [4, 5, 6, 7, 8, 9, 1, 0] rfl
            have I2 := IH z y0 y1 y2 K lo up we le hds (cds ++ [(q9, 102, p1, 0)]) (upd (upd zf (4 : Int32).toNatClampNeg (zf (4 : Int32).toNatClampNeg ||| 0)) (5 : Int32).toNatClampNeg ((upd zf (4 : Int32).toNatClampNeg (zf (4 : Int32).toNatClampNeg ||| 0)) (5 : Int32).toNatClampNeg ||| ((1 : Int32) <<< (nI p1 &&& 31)))) (by rw [hlen]; omega) (rwF_F hF9 (q := q9) h_p1 (by omega))
            rw [hlen] at I2
            refine W.widen (k := 9 + 2 * (cds.length + 1)) (n := 63 + 14 * (cds.length + 1)) (by omega) (by omega) ?_
            exact I2 H locs ls hP hD hS hl
        · refine lv_icmp_ge (tgt := 455) hx hb dL_addRule_366 (by decide) (fun _ => ?_) (fun c0 => (c0 ((kI_le (a := 5) (b := kd) (by omega) (by omega)).mpr (by omega))).elim)
          refine lv_aload_n hx hb dL_addRule_455 rfl (lv_at hl 3 rfl) ?_
          refine lv_iload_n hx hb dL_addRule_456 rfl (lv_at hl 4 rfl) ?_
          refine lv_bipush (v := 10) hx hb dL_addRule_457 (by decide) ?_
          refine lv_iadd hx hb dL_addRule_459 ?_
          refine lv_topi (nm_r (e' := nI (i + 10)) (nI_add i 10) ?_)
          refine lv_iconst (v := 3) hx hb dL_addRule_460 (by decide) ?_
          refine lv_iload hx hb dL_addRule_461 (lv_at hl 9 rfl) ?_
          refine lv_imul hx hb dL_addRule_463 ?_
          refine lv_topi (nm_r (e' := nI (3 * cds.length)) (mul3 (by omega)) ?_)
          refine lv_iadd hx hb dL_addRule_464 ?_
          refine lv_topi (nm_r (e' := nI (i + 10 + 3 * cds.length)) (nI_add _ _) ?_)
          refine lv_iconst (v := 2) hx hb dL_addRule_465 (by decide) ?_
          obtain ⟨l2, h_l2, e_l2⟩ := pick_lt L xs (nI (i + 10 + 3 * cds.length)) (m := 2) (by decide) (by decide)
          refine wq_iQW (ws := ((wA ty X (nI n) (nI (r + 1)) tn en pl (va_up rf (nI r).toNatClampNeg (some y0)) hn kn on 0 pu gw an ch cg fb mh ml ih lb 0 nn 0) ++ [(z, .inl (ty 0, 11, .inl zf)), (y0, .inr (10, [.int K, .int 0, .int lo, .int up, .int (-1), .int we, .int le, .ref y1, .int (nI hds.length), .ref y2, .int (nI cds.length)])), (y1, .inl (ty 5, 2, .inr (.inr (.inr (.inr (hF hds)))))), (y2, .inl (ty 5, 5, .inr (.inr (.inr (.inr (cF cds))))))])) (pl := (hds.map lH ++ cds.map lC)) (wc := []) (va_runS (As := [.ref b, .int (nI (i + 10 + 3 * cds.length)), .int (nI 2)]) (rest := []) ⟨hx, hb, hml, hown, hts⟩ (k_L_pick l D ty td mi H.size L xs b (nI (i + 10 + 3 * cds.length)) (nI 2) (kI_nn (by omega)) (by decide) hL (nI l2) e_l2.symm) (va_cwS 3 hts gv_k_L_addRule_L_pick rfl rfl rfl (by decide +kernel) ⟨(Nat.le_of_ble_eq_true rfl), (Nat.le_of_ble_eq_true rfl)⟩) (wq_preSS (wm_preS (vP_left hP) (vD_left hD) hK hE hS hA [] rfl) hX hbl hbA hS (wm_free (vD_left hD) hS hA [] rfl)) rfl rfl hl.1 rfl (lv_room (Nat.le_of_ble_eq_true rfl)) dL_addRule_466 ⟨(by show 9 + 2 * cds.length + 0 ≤ 15; omega), (by show 63 + 14 * cds.length + 0 ≤ 105; omega)⟩) hS hA hP hD [] rfl (fun _ _ h => by rcases h with ⟨-, rfl⟩; rfl) (fun rr u H locs hw hP hD hS => ?_)
          obtain ⟨rfl, rfl⟩ := hw
          have hP : va_P D vwCl (((wA ty X (nI n) (nI (r + 1)) tn en pl (va_up rf (nI r).toNatClampNeg (some y0)) hn kn on 0 pu gw an ch cg fb mh ml ih lb 0 nn 0) ++ [(z, .inl (ty 0, 11, .inl zf)), (y0, .inr (10, [.int K, .int 0, .int lo, .int up, .int (-1), .int we, .int le, .ref y1, .int (nI hds.length), .ref y2, .int (nI cds.length)])), (y1, .inl (ty 5, 2, .inr (.inr (.inr (.inr (hF hds)))))), (y2, .inl (ty 5, 5, .inr (.inr (.inr (.inr (cF cds))))))]) ++ (hds.map lH ++ cds.map lC)) H := hP
          have hD : va_D A (((wA ty X (nI n) (nI (r + 1)) tn en pl (va_up rf (nI r).toNatClampNeg (some y0)) hn kn on 0 pu gw an ch cg fb mh ml ih lb 0 nn 0) ++ [(z, .inl (ty 0, 11, .inl zf)), (y0, .inr (10, [.int K, .int 0, .int lo, .int up, .int (-1), .int we, .int le, .ref y1, .int (nI hds.length), .ref y2, .int (nI cds.length)])), (y1, .inl (ty 5, 2, .inr (.inr (.inr (.inr (hF hds)))))), (y2, .inl (ty 5, 5, .inr (.inr (.inr (.inr (cF cds))))))]) ++ (hds.map lH ++ cds.map lC)) := hD
          refine W.widen (k := 9 + 2 * cds.length) (n := 63 + 14 * cds.length) (by omega) (by omega) ?_
          by_cases dl : l2 = 0
          · refine lv_if_ne (tgt := 476) hx hb dL_addRule_469 (by decide) (fun c0 => (c0 (by rw [dl]; rfl)).elim) (fun _ => ?_)
            refine lv_iconst (v := 1) hx hb dL_addRule_472 (by decide) ?_
            refine lv_goto (tgt := 477) hx hb dL_addRule_473 (by decide) ?_
            refine lv_istore (lv' := [(13, .int 1), (12, .int (nI kd)), (11, .int (nI p1)), (0, .ref (X 0)), (1, .ref b), (2, .int (nI i)), (3, .int (nI n)), (4, .int (nI r)), (5, .ref z), (8, .int 1), (10, .int (nI cds.length))]) hx hb dL_addRule_477 hl (by decide) rfl (fun ls hl => ?_)
            refine lv_iload hx hb dL_addRule_479 (lv_at hl 9 rfl) ?_
            refine lv_if_eq (tgt := 528) hx hb dL_addRule_481 (by decide) (fun c0 => ((absurd c0 (by decide) : False)).elim) (fun _ => ?_)
            refine lv_aload_n hx hb dL_addRule_484 rfl (lv_at hl 3 rfl) ?_
            refine lv_bipush (v := 7) hx hb dL_addRule_485 (by decide) ?_
            refine lv_iload hx hb dL_addRule_487 (lv_at hl 7 rfl) ?_
            refine lv_iload hx hb dL_addRule_489 (lv_at hl 0 rfl) ?_
            refine lv_if_eq (tgt := 499) hx hb dL_addRule_491 (by decide) (fun c0 => ((absurd c0 (by decide) : False)).elim) (fun _ => ?_)
            refine lv_bipush (v := 103) hx hb dL_addRule_494 (by decide) ?_
            refine lv_goto (tgt := 501) hx hb dL_addRule_496 (by decide) ?_
            refine lv_iload hx hb dL_addRule_501 (lv_at hl 2 rfl) ?_
            refine lv_iload hx hb dL_addRule_503 (lv_at hl 0 rfl) ?_
            refine lv_if_eq (tgt := 512) hx hb dL_addRule_505 (by decide) (fun c0 => ((absurd c0 (by decide) : False)).elim) (fun _ => ?_)
            refine lv_iconst (v := 1) hx hb dL_addRule_508 (by decide) ?_
            refine lv_goto (tgt := 513) hx hb dL_addRule_509 (by decide) ?_
            refine lv_iconst (v := 0) hx hb dL_addRule_513 (by decide) ?_
            refine wq_xiW (wc := (wW_k_L_deed_7 ty X y0 y1 y2 (nI n) (nI (r + 1)) tn en (va_up rf (nI r).toNatClampNeg (some y0)) hn kn on 0 pu gw an ch cg fb mh ml ih lb 0 nn 0 K 0 lo up (-1) we le (nI hds.length) (nI cds.length) (cF cds))) (vx_runSX (As := [.ref (X 0), .int 7, .int (nI r), .int 103, .int (nI p1), .int 1, .int 0]) (rest := []) ⟨hx, hb, hml, hown, hts⟩ (k_L_deed_7 l hl9 D ty td mi H.size X (nI n) (nI (r + 1)) tn en (va_up rf (nI r).toNatClampNeg (some y0)) hn kn on 0 pu gw an ch cg fb mh ml ih lb 0 nn 0 y0 K 0 lo up (-1) we le y1 (nI hds.length) y2 (nI cds.length) (cF cds) (nI r) 103 (nI p1) 1 0 (fun o ho => by rw [e_ruleAt hr20 rf y0] at ho; exact (Option.some.inj ho).symm) (2, nI (cds.length + 1), 103, nI p1, 1, 0, 0, 0, 0, 0, 0, 0, 0, nI (cds.length + 1)) ((e_deed7g hn6 h_p1 (by omega : cds.length < 5) (e_ruleAt hr20 rf y0) 0 0 0).symm)) (vx_cwSW 7 hts gv_k_L_addRule_L_deed_7 rfl rfl rfl (by decide +kernel) ⟨(Nat.le_of_ble_eq_true rfl), (Nat.le_of_ble_eq_true rfl)⟩) (wm_preS hP hD hK hE hS hA [true, true, false, true, true, true, true, false, true, false, true] rfl) rfl rfl hl.1 rfl (lv_room (Nat.le_of_ble_eq_true rfl)) dL_addRule_514 ⟨(by show 9 + 2 * cds.length + 2 ≤ 15; omega), (by show 63 + 14 * cds.length + 14 ≤ 105; omega)⟩) hS hA hP hD [true, true, false, true, true, true, true, false, true, false, true] rfl (fun _ _ h => by rcases h with ⟨-, -, rfl⟩ | ⟨_, -, -, rfl⟩ | ⟨_, -, -, rfl⟩ <;> rfl) (fun _ _ h => h.elim) (fun E9 u H locs q9 ce hw hP hD hS hce hcv hcl => hw.elim) (fun rr u H locs hw hP hD hS => ?_)
            rcases hw with ⟨c0, -, -⟩ | ⟨_, c0, -, -⟩ | ⟨q9, -, rfl, rfl⟩
            · exact absurd (show (2 : Int32) = 0 from c0) (by decide)
            · exact absurd (show (2 : Int32) = 1 from c0) (by decide)
            have hP : va_P D vwCl (((wA ty X (nI n) (nI (r + 1)) tn en pl (va_up rf (nI r).toNatClampNeg (some y0)) hn kn on 0 pu gw an ch cg fb mh ml ih lb 0 nn 0) ++ [(z, .inl (ty 0, 11, .inl zf)), (y0, .inr (10, [.int K, .int 0, .int lo, .int up, .int (-1), .int we, .int le, .ref y1, .int (nI hds.length), .ref y2, .int (nI (cds.length + 1))])), (y1, .inl (ty 5, 2, .inr (.inr (.inr (.inr (hF hds)))))), (y2, .inl (ty 5, 5, .inr (.inr (.inr (.inr (va_up (cF cds) (nI cds.length).toNatClampNeg (some q9)))))))]) ++ ((hds.map lH ++ cds.map lC) ++ [lC (q9, 103, p1, 1)])) H := hP
            have hD : va_D A (((wA ty X (nI n) (nI (r + 1)) tn en pl (va_up rf (nI r).toNatClampNeg (some y0)) hn kn on 0 pu gw an ch cg fb mh ml ih lb 0 nn 0) ++ [(z, .inl (ty 0, 11, .inl zf)), (y0, .inr (10, [.int K, .int 0, .int lo, .int up, .int (-1), .int we, .int le, .ref y1, .int (nI hds.length), .ref y2, .int (nI (cds.length + 1))])), (y1, .inl (ty 5, 2, .inr (.inr (.inr (.inr (hF hds)))))), (y2, .inl (ty 5, 5, .inr (.inr (.inr (.inr (va_up (cF cds) (nI cds.length).toNatClampNeg (some q9)))))))]) ++ ((hds.map lH ++ cds.map lC) ++ [lC (q9, 103, p1, 1)])) := hD
            refine W.widen (k := 11 + 2 * cds.length) (n := 77 + 14 * cds.length) (by omega) (by omega) ?_
            have e9 : (hds.map lH ++ cds.map lC) ++ [lC (q9, 103, p1, 1)] = hds.map lH ++ (cds ++ [(q9, 103, p1, 1)]).map lC := lits_addC hds cds (q9, 103, p1, 1)
            rw [e9, kI_nat (show cds.length < 2147483648 by omega), cF_add cds q9 (103, p1, 1)] at hP hD
            refine lv_iload hx hb dL_addRule_517 (lv_at hl 10 rfl) ?_
            refine lv_iconst (v := 1) hx hb dL_addRule_519 (by decide) ?_
            refine lv_iadd hx hb dL_addRule_520 ?_
            refine lv_topi (nm_r (e' := nI (cds.length + 1)) (kI_s _) ?_)
            refine lv_icmp_ne (tgt := 528) hx hb dL_addRule_521 (by decide) (fun c0 => (c0 rfl).elim) (fun _ => ?_)
            refine lv_iconst (v := 1) hx hb dL_addRule_524 (by decide) ?_
            refine lv_goto (tgt := 529) hx hb dL_addRule_525 (by decide) ?_
            refine lv_istore (lv' := [(8, .int 1), (13, .int 1), (12, .int (nI kd)), (11, .int (nI p1)), (0, .ref (X 0)), (1, .ref b), (2, .int (nI i)), (3, .int (nI n)), (4, .int (nI r)), (5, .ref z), (10, .int (nI cds.length))]) hx hb dL_addRule_529 hl (by decide) rfl (fun ls hl => ?_)
            refine lv_aload hx hb dL_addRule_531 (lv_at hl 9 rfl) ?_
            refine lv_bipush (v := 8) hx hb dL_addRule_533 (by decide) ?_
            refine lv_dup2_11 hx hb dL_addRule_535 rfl rfl ?_
            refine va_iald (D := D) hx hb hK hP 7 0 rfl rfl (wi_in (by decide) (by decide)) dL_addRule_536 ?_
            refine lv_iload hx hb dL_addRule_537 (lv_at hl 1 rfl) ?_
            refine lv_if_eq (tgt := 549) hx hb dL_addRule_539 (by decide) (fun c0 => ((absurd c0 (by decide) : False)).elim) (fun _ => ?_)
            refine lv_iconst (v := 1) hx hb dL_addRule_542 (by decide) ?_
            refine lv_iload hx hb dL_addRule_543 (lv_at hl 3 rfl) ?_
            refine lv_ishl hx hb dL_addRule_545 ?_
            refine lv_goto (tgt := 550) hx hb dL_addRule_546 (by decide) ?_
            refine lv_ior hx hb dL_addRule_550 ?_
            refine va_iast (D := D) hx hb hK hP hD hS 7 0 rfl rfl (wi_in (by decide) (by decide)) dL_addRule_551 (fun H locs hP hD hS => ?_)
            have hP : va_P D vwCl (((wA ty X (nI n) (nI (r + 1)) tn en pl (va_up rf (nI r).toNatClampNeg (some y0)) hn kn on 0 pu gw an ch cg fb mh ml ih lb 0 nn 0) ++ [(z, .inl (ty 0, 11, .inl (upd zf (8 : Int32).toNatClampNeg (zf (8 : Int32).toNatClampNeg ||| ((1 : Int32) <<< (nI p1 &&& 31)))))), (y0, .inr (10, [.int K, .int 0, .int lo, .int up, .int (-1), .int we, .int le, .ref y1, .int (nI hds.length), .ref y2, .int (nI (cds.length + 1))])), (y1, .inl (ty 5, 2, .inr (.inr (.inr (.inr (hF hds)))))), (y2, .inl (ty 5, 5, .inr (.inr (.inr (.inr (cF (cds ++ [(q9, 103, p1, 1)])))))))]) ++ (hds.map lH ++ (cds ++ [(q9, 103, p1, 1)]).map lC)) H := hP
            have hD : va_D A (((wA ty X (nI n) (nI (r + 1)) tn en pl (va_up rf (nI r).toNatClampNeg (some y0)) hn kn on 0 pu gw an ch cg fb mh ml ih lb 0 nn 0) ++ [(z, .inl (ty 0, 11, .inl (upd zf (8 : Int32).toNatClampNeg (zf (8 : Int32).toNatClampNeg ||| ((1 : Int32) <<< (nI p1 &&& 31)))))), (y0, .inr (10, [.int K, .int 0, .int lo, .int up, .int (-1), .int we, .int le, .ref y1, .int (nI hds.length), .ref y2, .int (nI (cds.length + 1))])), (y1, .inl (ty 5, 2, .inr (.inr (.inr (.inr (hF hds)))))), (y2, .inl (ty 5, 5, .inr (.inr (.inr (.inr (cF (cds ++ [(q9, 103, p1, 1)])))))))]) ++ (hds.map lH ++ (cds ++ [(q9, 103, p1, 1)]).map lC)) := hD
            refine lv_aload hx hb dL_addRule_552 (lv_at hl 9 rfl) ?_
            refine lv_bipush (v := 6) hx hb dL_addRule_554 (by decide) ?_
            refine lv_dup2_11 hx hb dL_addRule_556 rfl rfl ?_
            refine va_iald (D := D) hx hb hK hP 7 0 rfl rfl (wi_in (by decide) (by decide)) dL_addRule_557 ?_
            refine lv_iload hx hb dL_addRule_558 (lv_at hl 1 rfl) ?_
            refine lv_if_eq (tgt := 570) hx hb dL_addRule_560 (by decide) (fun c0 => ((absurd c0 (by decide) : False)).elim) (fun _ => ?_)
            refine lv_iconst (v := 1) hx hb dL_addRule_563 (by decide) ?_
            refine lv_iload hx hb dL_addRule_564 (lv_at hl 3 rfl) ?_
            refine lv_ishl hx hb dL_addRule_566 ?_
            refine lv_goto (tgt := 571) hx hb dL_addRule_567 (by decide) ?_
            refine lv_ior hx hb dL_addRule_571 ?_
            refine va_iast (D := D) hx hb hK hP hD hS 7 0 rfl rfl (wi_in (by decide) (by decide)) dL_addRule_572 (fun H locs hP hD hS => ?_)
            have hP : va_P D vwCl (((wA ty X (nI n) (nI (r + 1)) tn en pl (va_up rf (nI r).toNatClampNeg (some y0)) hn kn on 0 pu gw an ch cg fb mh ml ih lb 0 nn 0) ++ [(z, .inl (ty 0, 11, .inl (upd (upd zf (8 : Int32).toNatClampNeg (zf (8 : Int32).toNatClampNeg ||| ((1 : Int32) <<< (nI p1 &&& 31)))) (6 : Int32).toNatClampNeg ((upd zf (8 : Int32).toNatClampNeg (zf (8 : Int32).toNatClampNeg ||| ((1 : Int32) <<< (nI p1 &&& 31)))) (6 : Int32).toNatClampNeg ||| ((1 : Int32) <<< (nI p1 &&& 31)))))), (y0, .inr (10, [.int K, .int 0, .int lo, .int up, .int (-1), .int we, .int le, .ref y1, .int (nI hds.length), .ref y2, .int (nI (cds.length + 1))])), (y1, .inl (ty 5, 2, .inr (.inr (.inr (.inr (hF hds)))))), (y2, .inl (ty 5, 5, .inr (.inr (.inr (.inr (cF (cds ++ [(q9, 103, p1, 1)])))))))]) ++ (hds.map lH ++ (cds ++ [(q9, 103, p1, 1)]).map lC)) H := hP
            have hD : va_D A (((wA ty X (nI n) (nI (r + 1)) tn en pl (va_up rf (nI r).toNatClampNeg (some y0)) hn kn on 0 pu gw an ch cg fb mh ml ih lb 0 nn 0) ++ [(z, .inl (ty 0, 11, .inl (upd (upd zf (8 : Int32).toNatClampNeg (zf (8 : Int32).toNatClampNeg ||| ((1 : Int32) <<< (nI p1 &&& 31)))) (6 : Int32).toNatClampNeg ((upd zf (8 : Int32).toNatClampNeg (zf (8 : Int32).toNatClampNeg ||| ((1 : Int32) <<< (nI p1 &&& 31)))) (6 : Int32).toNatClampNeg ||| ((1 : Int32) <<< (nI p1 &&& 31)))))), (y0, .inr (10, [.int K, .int 0, .int lo, .int up, .int (-1), .int we, .int le, .ref y1, .int (nI hds.length), .ref y2, .int (nI (cds.length + 1))])), (y1, .inl (ty 5, 2, .inr (.inr (.inr (.inr (hF hds)))))), (y2, .inl (ty 5, 5, .inr (.inr (.inr (.inr (cF (cds ++ [(q9, 103, p1, 1)])))))))]) ++ (hds.map lH ++ (cds ++ [(q9, 103, p1, 1)]).map lC)) := hD
            refine lv_aload hx hb dL_addRule_573 (lv_at hl 9 rfl) ?_
            refine lv_bipush (v := 9) hx hb dL_addRule_575 (by decide) ?_
            refine lv_dup2_11 hx hb dL_addRule_577 rfl rfl ?_
            refine va_iald (D := D) hx hb hK hP 7 0 rfl rfl (wi_in (by decide) (by decide)) dL_addRule_578 ?_
            refine lv_iload hx hb dL_addRule_579 (lv_at hl 1 rfl) ?_
            refine lv_if_eq (tgt := 588) hx hb dL_addRule_581 (by decide) (fun c0 => ((absurd c0 (by decide) : False)).elim) (fun _ => ?_)
            refine lv_iconst (v := 0) hx hb dL_addRule_584 (by decide) ?_
            refine lv_goto (tgt := 592) hx hb dL_addRule_585 (by decide) ?_
            refine lv_ior hx hb dL_addRule_592 ?_
            refine va_iast (D := D) hx hb hK hP hD hS 7 0 rfl rfl (wi_in (by decide) (by decide)) dL_addRule_593 (fun H locs hP hD hS => ?_)
            have hP : va_P D vwCl (((wA ty X (nI n) (nI (r + 1)) tn en pl (va_up rf (nI r).toNatClampNeg (some y0)) hn kn on 0 pu gw an ch cg fb mh ml ih lb 0 nn 0) ++ [(z, .inl (ty 0, 11, .inl (upd (upd (upd zf (8 : Int32).toNatClampNeg (zf (8 : Int32).toNatClampNeg ||| ((1 : Int32) <<< (nI p1 &&& 31)))) (6 : Int32).toNatClampNeg ((upd zf (8 : Int32).toNatClampNeg (zf (8 : Int32).toNatClampNeg ||| ((1 : Int32) <<< (nI p1 &&& 31)))) (6 : Int32).toNatClampNeg ||| ((1 : Int32) <<< (nI p1 &&& 31)))) (9 : Int32).toNatClampNeg ((upd (upd zf (8 : Int32).toNatClampNeg (zf (8 : Int32).toNatClampNeg ||| ((1 : Int32) <<< (nI p1 &&& 31)))) (6 : Int32).toNatClampNeg ((upd zf (8 : Int32).toNatClampNeg (zf (8 : Int32).toNatClampNeg ||| ((1 : Int32) <<< (nI p1 &&& 31)))) (6 : Int32).toNatClampNeg ||| ((1 : Int32) <<< (nI p1 &&& 31)))) (9 : Int32).toNatClampNeg ||| 0)))), (y0, .inr (10, [.int K, .int 0, .int lo, .int up, .int (-1), .int we, .int le, .ref y1, .int (nI hds.length), .ref y2, .int (nI (cds.length + 1))])), (y1, .inl (ty 5, 2, .inr (.inr (.inr (.inr (hF hds)))))), (y2, .inl (ty 5, 5, .inr (.inr (.inr (.inr (cF (cds ++ [(q9, 103, p1, 1)])))))))]) ++ (hds.map lH ++ (cds ++ [(q9, 103, p1, 1)]).map lC)) H := hP
            have hD : va_D A (((wA ty X (nI n) (nI (r + 1)) tn en pl (va_up rf (nI r).toNatClampNeg (some y0)) hn kn on 0 pu gw an ch cg fb mh ml ih lb 0 nn 0) ++ [(z, .inl (ty 0, 11, .inl (upd (upd (upd zf (8 : Int32).toNatClampNeg (zf (8 : Int32).toNatClampNeg ||| ((1 : Int32) <<< (nI p1 &&& 31)))) (6 : Int32).toNatClampNeg ((upd zf (8 : Int32).toNatClampNeg (zf (8 : Int32).toNatClampNeg ||| ((1 : Int32) <<< (nI p1 &&& 31)))) (6 : Int32).toNatClampNeg ||| ((1 : Int32) <<< (nI p1 &&& 31)))) (9 : Int32).toNatClampNeg ((upd (upd zf (8 : Int32).toNatClampNeg (zf (8 : Int32).toNatClampNeg ||| ((1 : Int32) <<< (nI p1 &&& 31)))) (6 : Int32).toNatClampNeg ((upd zf (8 : Int32).toNatClampNeg (zf (8 : Int32).toNatClampNeg ||| ((1 : Int32) <<< (nI p1 &&& 31)))) (6 : Int32).toNatClampNeg ||| ((1 : Int32) <<< (nI p1 &&& 31)))) (9 : Int32).toNatClampNeg ||| 0)))), (y0, .inr (10, [.int K, .int 0, .int lo, .int up, .int (-1), .int we, .int le, .ref y1, .int (nI hds.length), .ref y2, .int (nI (cds.length + 1))])), (y1, .inl (ty 5, 2, .inr (.inr (.inr (.inr (hF hds)))))), (y2, .inl (ty 5, 5, .inr (.inr (.inr (.inr (cF (cds ++ [(q9, 103, p1, 1)])))))))]) ++ (hds.map lH ++ (cds ++ [(q9, 103, p1, 1)]).map lC)) := hD
            refine lv_iinc (v := nI (cds.length + 1)) (lv' := [(10, .int (nI (cds.length + 1))), (8, .int 1), (13, .int 1), (12, .int (nI kd)), (11, .int (nI p1)), (0, .ref (X 0)), (1, .ref b), (2, .int (nI i)), (3, .int (nI n)), (4, .int (nI r)), (5, .ref z)]) hx hb dL_addRule_594 hl (k := 10) rfl (kI_s _) (by decide) rfl (fun ls hl => ?_)
            refine lv_goto (tgt := 316) hx hb dL_addRule_597 (by decide) ?_
            have hl : lv_has ls 14 [(0, .ref (X 0)), (1, .ref b), (2, .int (nI i)), (3, .int (nI n)), (4, .int (nI r)), (5, .ref z), (8, .int 1), (10, .int (nI (cds.length + 1)))] := lv_sub hl [5, 6, 7, 8, 9, 10, 1, 0] rfl
            have I2 := IH z y0 y1 y2 K lo up we le hds (cds ++ [(q9, 103, p1, 1)]) (upd (upd (upd zf (8 : Int32).toNatClampNeg (zf (8 : Int32).toNatClampNeg ||| ((1 : Int32) <<< (nI p1 &&& 31)))) (6 : Int32).toNatClampNeg ((upd zf (8 : Int32).toNatClampNeg (zf (8 : Int32).toNatClampNeg ||| ((1 : Int32) <<< (nI p1 &&& 31)))) (6 : Int32).toNatClampNeg ||| ((1 : Int32) <<< (nI p1 &&& 31)))) (9 : Int32).toNatClampNeg ((upd (upd zf (8 : Int32).toNatClampNeg (zf (8 : Int32).toNatClampNeg ||| ((1 : Int32) <<< (nI p1 &&& 31)))) (6 : Int32).toNatClampNeg ((upd zf (8 : Int32).toNatClampNeg (zf (8 : Int32).toNatClampNeg ||| ((1 : Int32) <<< (nI p1 &&& 31)))) (6 : Int32).toNatClampNeg ||| ((1 : Int32) <<< (nI p1 &&& 31)))) (9 : Int32).toNatClampNeg ||| 0)) (by rw [hlen]; omega) (rwF_G hF9 (q := q9) h_p1 (by omega))
            rw [hlen] at I2
            refine W.widen (k := 9 + 2 * (cds.length + 1)) (n := 63 + 14 * (cds.length + 1)) (by omega) (by omega) ?_
            exact I2 H locs ls hP hD hS hl
          · refine lv_if_ne (tgt := 476) hx hb dL_addRule_469 (by decide) (fun _ => ?_) (fun c0 => (dl ((kI_eq (a := l2) (b := 0) (by omega) (by omega)).mp c0)).elim)
            refine lv_iconst (v := 0) hx hb dL_addRule_476 (by decide) ?_
            refine lv_istore (lv' := [(13, .int 0), (12, .int (nI kd)), (11, .int (nI p1)), (0, .ref (X 0)), (1, .ref b), (2, .int (nI i)), (3, .int (nI n)), (4, .int (nI r)), (5, .ref z), (8, .int 1), (10, .int (nI cds.length))]) hx hb dL_addRule_477 hl (by decide) rfl (fun ls hl => ?_)
            refine lv_iload hx hb dL_addRule_479 (lv_at hl 9 rfl) ?_
            refine lv_if_eq (tgt := 528) hx hb dL_addRule_481 (by decide) (fun c0 => ((absurd c0 (by decide) : False)).elim) (fun _ => ?_)
            refine lv_aload_n hx hb dL_addRule_484 rfl (lv_at hl 3 rfl) ?_
            refine lv_bipush (v := 7) hx hb dL_addRule_485 (by decide) ?_
            refine lv_iload hx hb dL_addRule_487 (lv_at hl 7 rfl) ?_
            refine lv_iload hx hb dL_addRule_489 (lv_at hl 0 rfl) ?_
            refine lv_if_eq (tgt := 499) hx hb dL_addRule_491 (by decide) (fun _ => ?_) (fun c0 => (c0 rfl).elim)
            refine lv_bipush (v := 108) hx hb dL_addRule_499 (by decide) ?_
            refine lv_iload hx hb dL_addRule_501 (lv_at hl 2 rfl) ?_
            refine lv_iload hx hb dL_addRule_503 (lv_at hl 0 rfl) ?_
            refine lv_if_eq (tgt := 512) hx hb dL_addRule_505 (by decide) (fun _ => ?_) (fun c0 => (c0 rfl).elim)
            refine lv_iconst (v := 0) hx hb dL_addRule_512 (by decide) ?_
            refine lv_iconst (v := 0) hx hb dL_addRule_513 (by decide) ?_
            refine wq_xiW (wc := (wW_k_L_deed_7 ty X y0 y1 y2 (nI n) (nI (r + 1)) tn en (va_up rf (nI r).toNatClampNeg (some y0)) hn kn on 0 pu gw an ch cg fb mh ml ih lb 0 nn 0 K 0 lo up (-1) we le (nI hds.length) (nI cds.length) (cF cds))) (vx_runSX (As := [.ref (X 0), .int 7, .int (nI r), .int 108, .int (nI p1), .int 0, .int 0]) (rest := []) ⟨hx, hb, hml, hown, hts⟩ (k_L_deed_7 l hl9 D ty td mi H.size X (nI n) (nI (r + 1)) tn en (va_up rf (nI r).toNatClampNeg (some y0)) hn kn on 0 pu gw an ch cg fb mh ml ih lb 0 nn 0 y0 K 0 lo up (-1) we le y1 (nI hds.length) y2 (nI cds.length) (cF cds) (nI r) 108 (nI p1) 0 0 (fun o ho => by rw [e_ruleAt hr20 rf y0] at ho; exact (Option.some.inj ho).symm) (2, nI (cds.length + 1), 108, nI p1, 0, 0, 0, 0, 0, 0, 0, 0, 0, nI (cds.length + 1)) ((e_deed7l hn6 h_p1 (by omega : cds.length < 5) (e_ruleAt hr20 rf y0) 0 0 0).symm)) (vx_cwSW 7 hts gv_k_L_addRule_L_deed_7 rfl rfl rfl (by decide +kernel) ⟨(Nat.le_of_ble_eq_true rfl), (Nat.le_of_ble_eq_true rfl)⟩) (wm_preS hP hD hK hE hS hA [true, true, false, true, true, true, true, false, true, false, true] rfl) rfl rfl hl.1 rfl (lv_room (Nat.le_of_ble_eq_true rfl)) dL_addRule_514 ⟨(by show 9 + 2 * cds.length + 2 ≤ 15; omega), (by show 63 + 14 * cds.length + 14 ≤ 105; omega)⟩) hS hA hP hD [true, true, false, true, true, true, true, false, true, false, true] rfl (fun _ _ h => by rcases h with ⟨-, -, rfl⟩ | ⟨_, -, -, rfl⟩ | ⟨_, -, -, rfl⟩ <;> rfl) (fun _ _ h => h.elim) (fun E9 u H locs q9 ce hw hP hD hS hce hcv hcl => hw.elim) (fun rr u H locs hw hP hD hS => ?_)
            rcases hw with ⟨c0, -, -⟩ | ⟨_, c0, -, -⟩ | ⟨q9, -, rfl, rfl⟩
            · exact absurd (show (2 : Int32) = 0 from c0) (by decide)
            · exact absurd (show (2 : Int32) = 1 from c0) (by decide)
            have hP : va_P D vwCl (((wA ty X (nI n) (nI (r + 1)) tn en pl (va_up rf (nI r).toNatClampNeg (some y0)) hn kn on 0 pu gw an ch cg fb mh ml ih lb 0 nn 0) ++ [(z, .inl (ty 0, 11, .inl zf)), (y0, .inr (10, [.int K, .int 0, .int lo, .int up, .int (-1), .int we, .int le, .ref y1, .int (nI hds.length), .ref y2, .int (nI (cds.length + 1))])), (y1, .inl (ty 5, 2, .inr (.inr (.inr (.inr (hF hds)))))), (y2, .inl (ty 5, 5, .inr (.inr (.inr (.inr (va_up (cF cds) (nI cds.length).toNatClampNeg (some q9)))))))]) ++ ((hds.map lH ++ cds.map lC) ++ [lC (q9, 108, p1, 0)])) H := hP
            have hD : va_D A (((wA ty X (nI n) (nI (r + 1)) tn en pl (va_up rf (nI r).toNatClampNeg (some y0)) hn kn on 0 pu gw an ch cg fb mh ml ih lb 0 nn 0) ++ [(z, .inl (ty 0, 11, .inl zf)), (y0, .inr (10, [.int K, .int 0, .int lo, .int up, .int (-1), .int we, .int le, .ref y1, .int (nI hds.length), .ref y2, .int (nI (cds.length + 1))])), (y1, .inl (ty 5, 2, .inr (.inr (.inr (.inr (hF hds)))))), (y2, .inl (ty 5, 5, .inr (.inr (.inr (.inr (va_up (cF cds) (nI cds.length).toNatClampNeg (some q9)))))))]) ++ ((hds.map lH ++ cds.map lC) ++ [lC (q9, 108, p1, 0)])) := hD
            refine W.widen (k := 11 + 2 * cds.length) (n := 77 + 14 * cds.length) (by omega) (by omega) ?_
            have e9 : (hds.map lH ++ cds.map lC) ++ [lC (q9, 108, p1, 0)] = hds.map lH ++ (cds ++ [(q9, 108, p1, 0)]).map lC := lits_addC hds cds (q9, 108, p1, 0)
            rw [e9, kI_nat (show cds.length < 2147483648 by omega), cF_add cds q9 (108, p1, 0)] at hP hD
            refine lv_iload hx hb dL_addRule_517 (lv_at hl 10 rfl) ?_
            refine lv_iconst (v := 1) hx hb dL_addRule_519 (by decide) ?_
            refine lv_iadd hx hb dL_addRule_520 ?_
            refine lv_topi (nm_r (e' := nI (cds.length + 1)) (kI_s _) ?_)
            refine lv_icmp_ne (tgt := 528) hx hb dL_addRule_521 (by decide) (fun c0 => (c0 rfl).elim) (fun _ => ?_)
            refine lv_iconst (v := 1) hx hb dL_addRule_524 (by decide) ?_
            refine lv_goto (tgt := 529) hx hb dL_addRule_525 (by decide) ?_
            refine lv_istore (lv' := [(8, .int 1), (13, .int 0), (12, .int (nI kd)), (11, .int (nI p1)), (0, .ref (X 0)), (1, .ref b), (2, .int (nI i)), (3, .int (nI n)), (4, .int (nI r)), (5, .ref z), (10, .int (nI cds.length))]) hx hb dL_addRule_529 hl (by decide) rfl (fun ls hl => ?_)
            refine lv_aload hx hb dL_addRule_531 (lv_at hl 9 rfl) ?_
            refine lv_bipush (v := 8) hx hb dL_addRule_533 (by decide) ?_
            refine lv_dup2_11 hx hb dL_addRule_535 rfl rfl ?_
            refine va_iald (D := D) hx hb hK hP 7 0 rfl rfl (wi_in (by decide) (by decide)) dL_addRule_536 ?_
            refine lv_iload hx hb dL_addRule_537 (lv_at hl 1 rfl) ?_
            refine lv_if_eq (tgt := 549) hx hb dL_addRule_539 (by decide) (fun _ => ?_) (fun c0 => (c0 rfl).elim)
            refine lv_iconst (v := 0) hx hb dL_addRule_549 (by decide) ?_
            refine lv_ior hx hb dL_addRule_550 ?_
            refine va_iast (D := D) hx hb hK hP hD hS 7 0 rfl rfl (wi_in (by decide) (by decide)) dL_addRule_551 (fun H locs hP hD hS => ?_)
            have hP : va_P D vwCl (((wA ty X (nI n) (nI (r + 1)) tn en pl (va_up rf (nI r).toNatClampNeg (some y0)) hn kn on 0 pu gw an ch cg fb mh ml ih lb 0 nn 0) ++ [(z, .inl (ty 0, 11, .inl (upd zf (8 : Int32).toNatClampNeg (zf (8 : Int32).toNatClampNeg ||| 0)))), (y0, .inr (10, [.int K, .int 0, .int lo, .int up, .int (-1), .int we, .int le, .ref y1, .int (nI hds.length), .ref y2, .int (nI (cds.length + 1))])), (y1, .inl (ty 5, 2, .inr (.inr (.inr (.inr (hF hds)))))), (y2, .inl (ty 5, 5, .inr (.inr (.inr (.inr (cF (cds ++ [(q9, 108, p1, 0)])))))))]) ++ (hds.map lH ++ (cds ++ [(q9, 108, p1, 0)]).map lC)) H := hP
            have hD : va_D A (((wA ty X (nI n) (nI (r + 1)) tn en pl (va_up rf (nI r).toNatClampNeg (some y0)) hn kn on 0 pu gw an ch cg fb mh ml ih lb 0 nn 0) ++ [(z, .inl (ty 0, 11, .inl (upd zf (8 : Int32).toNatClampNeg (zf (8 : Int32).toNatClampNeg ||| 0)))), (y0, .inr (10, [.int K, .int 0, .int lo, .int up, .int (-1), .int we, .int le, .ref y1, .int (nI hds.length), .ref y2, .int (nI (cds.length + 1))])), (y1, .inl (ty 5, 2, .inr (.inr (.inr (.inr (hF hds)))))), (y2, .inl (ty 5, 5, .inr (.inr (.inr (.inr (cF (cds ++ [(q9, 108, p1, 0)])))))))]) ++ (hds.map lH ++ (cds ++ [(q9, 108, p1, 0)]).map lC)) := hD
            refine lv_aload hx hb dL_addRule_552 (lv_at hl 9 rfl) ?_
            refine lv_bipush (v := 6) hx hb dL_addRule_554 (by decide) ?_
            refine lv_dup2_11 hx hb dL_addRule_556 rfl rfl ?_
            refine va_iald (D := D) hx hb hK hP 7 0 rfl rfl (wi_in (by decide) (by decide)) dL_addRule_557 ?_
            refine lv_iload hx hb dL_addRule_558 (lv_at hl 1 rfl) ?_
            refine lv_if_eq (tgt := 570) hx hb dL_addRule_560 (by decide) (fun _ => ?_) (fun c0 => (c0 rfl).elim)
            refine lv_iconst (v := 0) hx hb dL_addRule_570 (by decide) ?_
            refine lv_ior hx hb dL_addRule_571 ?_
            refine va_iast (D := D) hx hb hK hP hD hS 7 0 rfl rfl (wi_in (by decide) (by decide)) dL_addRule_572 (fun H locs hP hD hS => ?_)
            have hP : va_P D vwCl (((wA ty X (nI n) (nI (r + 1)) tn en pl (va_up rf (nI r).toNatClampNeg (some y0)) hn kn on 0 pu gw an ch cg fb mh ml ih lb 0 nn 0) ++ [(z, .inl (ty 0, 11, .inl (upd (upd zf (8 : Int32).toNatClampNeg (zf (8 : Int32).toNatClampNeg ||| 0)) (6 : Int32).toNatClampNeg ((upd zf (8 : Int32).toNatClampNeg (zf (8 : Int32).toNatClampNeg ||| 0)) (6 : Int32).toNatClampNeg ||| 0)))), (y0, .inr (10, [.int K, .int 0, .int lo, .int up, .int (-1), .int we, .int le, .ref y1, .int (nI hds.length), .ref y2, .int (nI (cds.length + 1))])), (y1, .inl (ty 5, 2, .inr (.inr (.inr (.inr (hF hds)))))), (y2, .inl (ty 5, 5, .inr (.inr (.inr (.inr (cF (cds ++ [(q9, 108, p1, 0)])))))))]) ++ (hds.map lH ++ (cds ++ [(q9, 108, p1, 0)]).map lC)) H := hP
            have hD : va_D A (((wA ty X (nI n) (nI (r + 1)) tn en pl (va_up rf (nI r).toNatClampNeg (some y0)) hn kn on 0 pu gw an ch cg fb mh ml ih lb 0 nn 0) ++ [(z, .inl (ty 0, 11, .inl (upd (upd zf (8 : Int32).toNatClampNeg (zf (8 : Int32).toNatClampNeg ||| 0)) (6 : Int32).toNatClampNeg ((upd zf (8 : Int32).toNatClampNeg (zf (8 : Int32).toNatClampNeg ||| 0)) (6 : Int32).toNatClampNeg ||| 0)))), (y0, .inr (10, [.int K, .int 0, .int lo, .int up, .int (-1), .int we, .int le, .ref y1, .int (nI hds.length), .ref y2, .int (nI (cds.length + 1))])), (y1, .inl (ty 5, 2, .inr (.inr (.inr (.inr (hF hds)))))), (y2, .inl (ty 5, 5, .inr (.inr (.inr (.inr (cF (cds ++ [(q9, 108, p1, 0)])))))))]) ++ (hds.map lH ++ (cds ++ [(q9, 108, p1, 0)]).map lC)) := hD
            refine lv_aload hx hb dL_addRule_573 (lv_at hl 9 rfl) ?_
            refine lv_bipush (v := 9) hx hb dL_addRule_575 (by decide) ?_
            refine lv_dup2_11 hx hb dL_addRule_577 rfl rfl ?_
            refine va_iald (D := D) hx hb hK hP 7 0 rfl rfl (wi_in (by decide) (by decide)) dL_addRule_578 ?_
            refine lv_iload hx hb dL_addRule_579 (lv_at hl 1 rfl) ?_
            refine lv_if_eq (tgt := 588) hx hb dL_addRule_581 (by decide) (fun _ => ?_) (fun c0 => (c0 rfl).elim)
            refine lv_iconst (v := 1) hx hb dL_addRule_588 (by decide) ?_
            refine lv_iload hx hb dL_addRule_589 (lv_at hl 3 rfl) ?_
            refine lv_ishl hx hb dL_addRule_591 ?_
            refine lv_ior hx hb dL_addRule_592 ?_
            refine va_iast (D := D) hx hb hK hP hD hS 7 0 rfl rfl (wi_in (by decide) (by decide)) dL_addRule_593 (fun H locs hP hD hS => ?_)
            have hP : va_P D vwCl (((wA ty X (nI n) (nI (r + 1)) tn en pl (va_up rf (nI r).toNatClampNeg (some y0)) hn kn on 0 pu gw an ch cg fb mh ml ih lb 0 nn 0) ++ [(z, .inl (ty 0, 11, .inl (upd (upd (upd zf (8 : Int32).toNatClampNeg (zf (8 : Int32).toNatClampNeg ||| 0)) (6 : Int32).toNatClampNeg ((upd zf (8 : Int32).toNatClampNeg (zf (8 : Int32).toNatClampNeg ||| 0)) (6 : Int32).toNatClampNeg ||| 0)) (9 : Int32).toNatClampNeg ((upd (upd zf (8 : Int32).toNatClampNeg (zf (8 : Int32).toNatClampNeg ||| 0)) (6 : Int32).toNatClampNeg ((upd zf (8 : Int32).toNatClampNeg (zf (8 : Int32).toNatClampNeg ||| 0)) (6 : Int32).toNatClampNeg ||| 0)) (9 : Int32).toNatClampNeg ||| ((1 : Int32) <<< (nI p1 &&& 31)))))), (y0, .inr (10, [.int K, .int 0, .int lo, .int up, .int (-1), .int we, .int le, .ref y1, .int (nI hds.length), .ref y2, .int (nI (cds.length + 1))])), (y1, .inl (ty 5, 2, .inr (.inr (.inr (.inr (hF hds)))))), (y2, .inl (ty 5, 5, .inr (.inr (.inr (.inr (cF (cds ++ [(q9, 108, p1, 0)])))))))]) ++ (hds.map lH ++ (cds ++ [(q9, 108, p1, 0)]).map lC)) H := hP
            have hD : va_D A (((wA ty X (nI n) (nI (r + 1)) tn en pl (va_up rf (nI r).toNatClampNeg (some y0)) hn kn on 0 pu gw an ch cg fb mh ml ih lb 0 nn 0) ++ [(z, .inl (ty 0, 11, .inl (upd (upd (upd zf (8 : Int32).toNatClampNeg (zf (8 : Int32).toNatClampNeg ||| 0)) (6 : Int32).toNatClampNeg ((upd zf (8 : Int32).toNatClampNeg (zf (8 : Int32).toNatClampNeg ||| 0)) (6 : Int32).toNatClampNeg ||| 0)) (9 : Int32).toNatClampNeg ((upd (upd zf (8 : Int32).toNatClampNeg (zf (8 : Int32).toNatClampNeg ||| 0)) (6 : Int32).toNatClampNeg ((upd zf (8 : Int32).toNatClampNeg (zf (8 : Int32).toNatClampNeg ||| 0)) (6 : Int32).toNatClampNeg ||| 0)) (9 : Int32).toNatClampNeg ||| ((1 : Int32) <<< (nI p1 &&& 31)))))), (y0, .inr (10, [.int K, .int 0, .int lo, .int up, .int (-1), .int we, .int le, .ref y1, .int (nI hds.length), .ref y2, .int (nI (cds.length + 1))])), (y1, .inl (ty 5, 2, .inr (.inr (.inr (.inr (hF hds)))))), (y2, .inl (ty 5, 5, .inr (.inr (.inr (.inr (cF (cds ++ [(q9, 108, p1, 0)])))))))]) ++ (hds.map lH ++ (cds ++ [(q9, 108, p1, 0)]).map lC)) := hD
            refine lv_iinc (v := nI (cds.length + 1)) (lv' := [(10, .int (nI (cds.length + 1))), (8, .int 1), (13, .int 0), (12, .int (nI kd)), (11, .int (nI p1)), (0, .ref (X 0)), (1, .ref b), (2, .int (nI i)), (3, .int (nI n)), (4, .int (nI r)), (5, .ref z)]) hx hb dL_addRule_594 hl (k := 10) rfl (kI_s _) (by decide) rfl (fun ls hl => ?_)
            refine lv_goto (tgt := 316) hx hb dL_addRule_597 (by decide) ?_
            have hl : lv_has ls 14 [(0, .ref (X 0)), (1, .ref b), (2, .int (nI i)), (3, .int (nI n)), (4, .int (nI r)), (5, .ref z), (8, .int 1), (10, .int (nI (cds.length + 1)))] := lv_sub hl [5, 6, 7, 8, 9, 10, 1, 0] rfl
            have I2 := IH z y0 y1 y2 K lo up we le hds (cds ++ [(q9, 108, p1, 0)]) (upd (upd (upd zf (8 : Int32).toNatClampNeg (zf (8 : Int32).toNatClampNeg ||| 0)) (6 : Int32).toNatClampNeg ((upd zf (8 : Int32).toNatClampNeg (zf (8 : Int32).toNatClampNeg ||| 0)) (6 : Int32).toNatClampNeg ||| 0)) (9 : Int32).toNatClampNeg ((upd (upd zf (8 : Int32).toNatClampNeg (zf (8 : Int32).toNatClampNeg ||| 0)) (6 : Int32).toNatClampNeg ((upd zf (8 : Int32).toNatClampNeg (zf (8 : Int32).toNatClampNeg ||| 0)) (6 : Int32).toNatClampNeg ||| 0)) (9 : Int32).toNatClampNeg ||| ((1 : Int32) <<< (nI p1 &&& 31)))) (by rw [hlen]; omega) (rwF_L hF9 (q := q9) h_p1 (by omega))
            rw [hlen] at I2
            refine W.widen (k := 9 + 2 * (cds.length + 1)) (n := 63 + 14 * (cds.length + 1)) (by omega) (by omega) ?_
            exact I2 H locs ls hP hD hS hl
      · refine lv_icmp_ge (tgt := 600) hx hb dL_addRule_327 (by decide) (fun _ => ?_) (fun c0 => (c0 ((kI_le (a := c7) (b := cds.length) (by omega) (by omega)).mpr (by omega))).elim)
        refine lv_aload hx hb dL_addRule_600 (lv_at hl 5 rfl) ?_
        refine lv_bipush (v := 10) hx hb dL_addRule_602 (by decide) ?_
        refine lv_iload hx hb dL_addRule_604 (lv_at hl 6 rfl) ?_
        refine wq_iQW (ws := ((wA ty X (nI n) (nI (r + 1)) tn en pl (va_up rf (nI r).toNatClampNeg (some y0)) hn kn on 0 pu gw an ch cg fb mh ml ih lb 0 nn 0) ++ [(z, .inl (ty 0, 11, .inl zf)), (y0, .inr (10, [.int K, .int 0, .int lo, .int up, .int (-1), .int we, .int le, .ref y1, .int (nI hds.length), .ref y2, .int (nI cds.length)])), (y1, .inl (ty 5, 2, .inr (.inr (.inr (.inr (hF hds)))))), (y2, .inl (ty 5, 5, .inr (.inr (.inr (.inr (cF cds))))))])) (pl := (hds.map lH ++ cds.map lC)) (wc := []) (va_runS (As := [.int 1]) (rest := [.int 10, .ref z]) ⟨hx, hb, hml, hown, hts⟩ (k_L_told l D ty td mi H.size 1 1 told_1.symm) (va_cwS 1 hts gv_k_L_addRule_L_told rfl rfl rfl (by decide +kernel) ⟨(Nat.le_of_ble_eq_true rfl), (Nat.le_of_ble_eq_true rfl)⟩) (wm_preS (vP_left hP) (vD_left hD) hK hE hS hA [] rfl) rfl rfl hl.1 rfl (lv_room (Nat.le_of_ble_eq_true rfl)) dL_addRule_606 ⟨(by show 9 + 2 * cds.length + 0 ≤ 15; omega), (by show 63 + 14 * cds.length + 0 ≤ 105; omega)⟩) hS hA hP hD [] rfl (fun _ _ h => by rcases h with ⟨-, rfl⟩; rfl) (fun rr u H locs hw hP hD hS => ?_)
        obtain ⟨rfl, rfl⟩ := hw
        have hP : va_P D vwCl (((wA ty X (nI n) (nI (r + 1)) tn en pl (va_up rf (nI r).toNatClampNeg (some y0)) hn kn on 0 pu gw an ch cg fb mh ml ih lb 0 nn 0) ++ [(z, .inl (ty 0, 11, .inl zf)), (y0, .inr (10, [.int K, .int 0, .int lo, .int up, .int (-1), .int we, .int le, .ref y1, .int (nI hds.length), .ref y2, .int (nI cds.length)])), (y1, .inl (ty 5, 2, .inr (.inr (.inr (.inr (hF hds)))))), (y2, .inl (ty 5, 5, .inr (.inr (.inr (.inr (cF cds))))))]) ++ (hds.map lH ++ cds.map lC)) H := hP
        have hD : va_D A (((wA ty X (nI n) (nI (r + 1)) tn en pl (va_up rf (nI r).toNatClampNeg (some y0)) hn kn on 0 pu gw an ch cg fb mh ml ih lb 0 nn 0) ++ [(z, .inl (ty 0, 11, .inl zf)), (y0, .inr (10, [.int K, .int 0, .int lo, .int up, .int (-1), .int we, .int le, .ref y1, .int (nI hds.length), .ref y2, .int (nI cds.length)])), (y1, .inl (ty 5, 2, .inr (.inr (.inr (.inr (hF hds)))))), (y2, .inl (ty 5, 5, .inr (.inr (.inr (.inr (cF cds))))))]) ++ (hds.map lH ++ cds.map lC)) := hD
        refine W.widen (k := 9 + 2 * cds.length) (n := 63 + 14 * cds.length) (by omega) (by omega) ?_
        refine va_iast (D := D) hx hb hK hP hD hS 7 0 rfl rfl (wi_in (by decide) (by decide)) dL_addRule_609 (fun H locs hP hD hS => ?_)
        have hP : va_P D vwCl (((wA ty X (nI n) (nI (r + 1)) tn en pl (va_up rf (nI r).toNatClampNeg (some y0)) hn kn on 0 pu gw an ch cg fb mh ml ih lb 0 nn 0) ++ [(z, .inl (ty 0, 11, .inl (upd zf (10 : Int32).toNatClampNeg 1))), (y0, .inr (10, [.int K, .int 0, .int lo, .int up, .int (-1), .int we, .int le, .ref y1, .int (nI hds.length), .ref y2, .int (nI cds.length)])), (y1, .inl (ty 5, 2, .inr (.inr (.inr (.inr (hF hds)))))), (y2, .inl (ty 5, 5, .inr (.inr (.inr (.inr (cF cds))))))]) ++ (hds.map lH ++ cds.map lC)) H := hP
        have hD : va_D A (((wA ty X (nI n) (nI (r + 1)) tn en pl (va_up rf (nI r).toNatClampNeg (some y0)) hn kn on 0 pu gw an ch cg fb mh ml ih lb 0 nn 0) ++ [(z, .inl (ty 0, 11, .inl (upd zf (10 : Int32).toNatClampNeg 1))), (y0, .inr (10, [.int K, .int 0, .int lo, .int up, .int (-1), .int we, .int le, .ref y1, .int (nI hds.length), .ref y2, .int (nI cds.length)])), (y1, .inl (ty 5, 2, .inr (.inr (.inr (.inr (hF hds)))))), (y2, .inl (ty 5, 5, .inr (.inr (.inr (.inr (cF cds))))))]) ++ (hds.map lH ++ cds.map lC)) := hD
        refine lv_aload hx hb dL_addRule_610 (lv_at hl 5 rfl) ?_
        have hP : va_P D vwCl ((wA ty X (nI n) (nI (r + 1)) tn en pl (va_up rf (nI r).toNatClampNeg (some y0)) hn kn on 0 pu gw an ch cg fb mh ml ih lb 0 nn 0) ++ ([(z, .inl (ty 0, 11, .inl (upd zf (10 : Int32).toNatClampNeg 1))), (y0, .inr (10, [.int K, .int 0, .int lo, .int up, .int (-1), .int we, .int le, .ref y1, .int (nI hds.length), .ref y2, .int (nI cds.length)])), (y1, .inl (ty 5, 2, .inr (.inr (.inr (.inr (hF hds)))))), (y2, .inl (ty 5, 5, .inr (.inr (.inr (.inr (cF cds))))))] ++ (hds.map lH ++ cds.map lC))) H := hP
        have hD : va_D A ((wA ty X (nI n) (nI (r + 1)) tn en pl (va_up rf (nI r).toNatClampNeg (some y0)) hn kn on 0 pu gw an ch cg fb mh ml ih lb 0 nn 0) ++ ([(z, .inl (ty 0, 11, .inl (upd zf (10 : Int32).toNatClampNeg 1))), (y0, .inr (10, [.int K, .int 0, .int lo, .int up, .int (-1), .int we, .int le, .ref y1, .int (nI hds.length), .ref y2, .int (nI cds.length)])), (y1, .inl (ty 5, 2, .inr (.inr (.inr (.inr (hF hds)))))), (y2, .inl (ty 5, 5, .inr (.inr (.inr (.inr (cF cds))))))] ++ (hds.map lH ++ cds.map lC))) := hD
        obtain ⟨g1, g2, g3, g4, g5, g6, g7, g8, g9, g10, g11, g12, g13, g14, g15, g16, g17⟩ := hF9
        have u9 : ∀ j : Nat, ¬ j = 10 → (upd zf (10 : Int32).toNatClampNeg 1) j = zf j := fun j hj => uu_else zf 1 hj
        obtain ⟨pq, f1, f2, f3, f4, f5, f6, f7, f8⟩ := ar_fin (a := y0) (z := z) (y1 := y1) (y2 := y2) (K := K) (pa := 0) (lo := lo) (up := up) (sp := -1) (we := we) (le := le) (hds := hds) (cds := cds) (zf := (upd zf (10 : Int32).toNatClampNeg 1)) (ty := ty) (A := A) (B := (wA ty X (nI n) (nI (r + 1)) tn en pl (va_up rf (nI r).toNatClampNeg (some y0)) hn kn on 0 pu gw an ch cg fb mh ml ih lb 0 nn 0)) hn6 g1 ((u9 0 (by omega)).trans g2) rfl rfl (fun e9 => by rw [u9 2 (by omega), u9 3 (by omega)]; exact g3 e9) (fun e9 => by rw [u9 2 (by omega), u9 3 (by omega)]; exact g4 e9) g5 g6 g7 (fun p9 => by rw [u9 1 (by omega)]; exact g8 p9) hcl g9 (fun p9 => by rw [u9 4 (by omega)]; exact g10 p9) (fun p9 => by rw [u9 5 (by omega)]; exact g11 p9) (fun p9 => by rw [u9 8 (by omega)]; exact g12 p9) (fun p9 => by rw [u9 9 (by omega)]; exact g13 p9) (by rw [u9 6 (by omega), u9 8 (by omega)]; exact g14) (by rw [u9 7 (by omega)]; exact g15) (by rw [u9 2 (by omega)]; exact g16) (by rw [u9 3 (by omega)]; exact g17) hD
        have hP := f7 D vwCl H hP
        refine W.widen (k := 15) (n := 105) (by omega) (by omega) ?_
        exact W.aret (v := .ref z) hx hb hr (Or.inr ⟨_, rfl⟩) (Or.inr ⟨_, rfl⟩) (fun t ht hW => ⟨⟨.ref z, (wA ty X (nI n) (nI (r + 1)) tn en pl (va_up rf (nI r).toNatClampNeg (some y0)) hn kn on 0 pu gw an ch cg fb mh ml ih lb 0 nn 0) ++ pw ty pq, rfl, ⟨pq, y0, z, hds.length, cds.length, rfl, f1, f2, f3, f4, f5, (f6 10).trans (uu_same zf 10 1), rfl⟩, wq_B.of ht hP f8⟩, hS.F ht⟩) hS.2.2 dL_addRule_612
  have L1 : ∀ (d : Nat) (z y0 y1 y2 : Nat) (K lo up we le : Int32) (hds : List (Nat × Nat)) (zf : Nat → Int32) (hN : Nat), hds.length + d = hN → hN ≤ 2 → (0 < hN → ¬ K = 119) → rwF n K lo up we le hds [] zf → ∀ (H : Heap) (locs : List Loc) (ls : Array Slot), va_P D vwCl (((wA ty X (nI n) (nI (r + 1)) tn en pl (va_up rf (nI r).toNatClampNeg (some y0)) hn kn on 0 pu gw an ch cg fb mh ml ih lb 0 nn 0) ++ [(z, .inl (ty 0, 11, .inl zf)), (y0, .inr (10, [.int K, .int 0, .int lo, .int up, .int (-1), .int we, .int le, .ref y1, .int (nI hds.length), .ref y2, .int 0])), (y1, .inl (ty 5, 2, .inr (.inr (.inr (.inr (hF hds)))))), (y2, .inl (ty 5, 5, .inr (.inr (.inr (.inr (fun _ => none))))))]) ++ (hds.map lH ++ ([] : List (Nat × Int32 × Nat × Int32)).map lC)) H → va_D A (((wA ty X (nI n) (nI (r + 1)) tn en pl (va_up rf (nI r).toNatClampNeg (some y0)) hn kn on 0 pu gw an ch cg fb mh ml ih lb 0 nn 0) ++ [(z, .inl (ty 0, 11, .inl zf)), (y0, .inr (10, [.int K, .int 0, .int lo, .int up, .int (-1), .int we, .int le, .ref y1, .int (nI hds.length), .ref y2, .int 0])), (y1, .inl (ty 5, 2, .inr (.inr (.inr (.inr (hF hds)))))), (y2, .inl (ty 5, 5, .inr (.inr (.inr (.inr (fun _ => none))))))]) ++ (hds.map lH ++ ([] : List (Nat × Int32 × Nat × Int32)).map lC)) → va_S A s.heap H locs → lv_has ls 14 [(0, .ref (X 0)), (1, .ref b), (2, .int (nI i)), (3, .int (nI n)), (4, .int (nI r)), (5, .ref z), (8, .int 1), (9, .int (nI hN)), (10, .int (nI hds.length))] → W p l e (headSpec vs_k_L_addRule { frames := 11, cells := 15, slots := 105, locals := 260 }).room s m ([.ref (X 0), .ref b, .int (nI i), .int (nI n), .int (nI r)] : List Value).toArray below meth c H locs (7 + hds.length) (47 + 8 * hds.length) (MQ below (wq_Qr (fun (v : Value) (u : va_W) => ∃ (p : pT) (a z h c : Nat), v = .ref z ∧ pRA p = [a] ∧ pZA p = [z] ∧ pOK p ∧ rOK p n a z h c ∧ zOK p z ∧ pI p z 10 = 1 ∧ u = (wA ty X (nI n) (nI (r + 1)) tn en pl (va_up rf (nI r).toNatClampNeg (some a)) hn kn on 0 pu gw an ch cg fb mh ml ih lb 0 nn 0) ++ pw ty p) (wq_B D A) A) ([.ref (X 0), .ref b, .int (nI i), .int (nI n), .int (nI r)] : List Value).toArray s 15 105 A) (F0 m 244 ls []) := by
    intro d
    induction d with
    | zero =>
      intro z y0 y1 y2 K lo up we le hds zf hN hd h2N hK9 hF9 H locs ls hP hD hS hl
      refine lv_iload hx hb dL_addRule_244 (lv_at hl 8 rfl) ?_
      refine lv_iload hx hb dL_addRule_246 (lv_at hl 7 rfl) ?_
      refine lv_icmp_ge (tgt := 313) hx hb dL_addRule_248 (by decide) (fun _ => ?_) (fun c0 => (c0 ((kI_le (a := hN) (b := hds.length) (by omega) (by omega)).mpr (by omega))).elim)
      refine lv_iconst (v := 0) hx hb dL_addRule_313 (by decide) ?_
      refine lv_istore (lv' := [(10, .int 0), (0, .ref (X 0)), (1, .ref b), (2, .int (nI i)), (3, .int (nI n)), (4, .int (nI r)), (5, .ref z), (8, .int 1), (9, .int (nI hN))]) hx hb dL_addRule_314 hl (by decide) rfl (fun ls hl => ?_)
      have hl : lv_has ls 14 [(0, .ref (X 0)), (1, .ref b), (2, .int (nI i)), (3, .int (nI n)), (4, .int (nI r)), (5, .ref z), (8, .int 1), (10, .int 0)] := lv_sub hl [1, 2, 3, 4, 5, 6, 7, 0] rfl
      refine W.widen (k := 9 + 2 * ([] : List (Nat × Int32 × Nat × Int32)).length) (n := 63 + 14 * ([] : List (Nat × Int32 × Nat × Int32)).length) (by show 7 + hds.length ≤ 9; omega) (by show 47 + 8 * hds.length ≤ 63; omega) ?_
      exact L2 3 z y0 y1 y2 K lo up we le hds [] zf rfl hF9 H locs ls hP hD hS hl
    | succ d IH =>
      intro z y0 y1 y2 K lo up we le hds zf hN hd h2N hK9 hF9 H locs ls hP hD hS hl
      refine lv_iload hx hb dL_addRule_244 (lv_at hl 8 rfl) ?_
      refine lv_iload hx hb dL_addRule_246 (lv_at hl 7 rfl) ?_
      refine lv_icmp_ge (tgt := 313) hx hb dL_addRule_248 (by decide) (fun c0 => (nle (a := hN) (b := hds.length) (by omega) (by omega) c0).elim) (fun _ => ?_)
      refine lv_aload_n hx hb dL_addRule_251 rfl (lv_at hl 1 rfl) ?_
      refine lv_iload_n hx hb dL_addRule_252 rfl (lv_at hl 2 rfl) ?_
      refine lv_iconst (v := 5) hx hb dL_addRule_253 (by decide) ?_
      refine lv_iadd hx hb dL_addRule_254 ?_
      refine lv_topi (nm_r (e' := nI (i + 5)) (nI_add i 5) ?_)
      refine lv_iload hx hb dL_addRule_255 (lv_at hl 8 rfl) ?_
      refine lv_iadd hx hb dL_addRule_257 ?_
      refine lv_topi (nm_r (e' := nI (i + 5 + hds.length)) (nI_add _ _) ?_)
      refine lv_iload_n hx hb dL_addRule_258 rfl (lv_at hl 3 rfl) ?_
      obtain ⟨p1, h_p1, e_p1⟩ := pick_lt L xs (nI (i + 5 + hds.length)) (m := n) hn0 (by omega)
      refine wq_iQW (ws := ((wA ty X (nI n) (nI (r + 1)) tn en pl (va_up rf (nI r).toNatClampNeg (some y0)) hn kn on 0 pu gw an ch cg fb mh ml ih lb 0 nn 0) ++ [(z, .inl (ty 0, 11, .inl zf)), (y0, .inr (10, [.int K, .int 0, .int lo, .int up, .int (-1), .int we, .int le, .ref y1, .int (nI hds.length), .ref y2, .int 0])), (y1, .inl (ty 5, 2, .inr (.inr (.inr (.inr (hF hds)))))), (y2, .inl (ty 5, 5, .inr (.inr (.inr (.inr (fun _ => none))))))])) (pl := (hds.map lH ++ ([] : List (Nat × Int32 × Nat × Int32)).map lC)) (wc := []) (va_runS (As := [.ref b, .int (nI (i + 5 + hds.length)), .int (nI n)]) (rest := []) ⟨hx, hb, hml, hown, hts⟩ (k_L_pick l D ty td mi H.size L xs b (nI (i + 5 + hds.length)) (nI n) (kI_nn (by omega)) (by rw [kI_ti (by omega)]; omega) hL (nI p1) e_p1.symm) (va_cwS 3 hts gv_k_L_addRule_L_pick rfl rfl rfl (by decide +kernel) ⟨(Nat.le_of_ble_eq_true rfl), (Nat.le_of_ble_eq_true rfl)⟩) (wq_preSS (wm_preS (vP_left hP) (vD_left hD) hK hE hS hA [] rfl) hX hbl hbA hS (wm_free (vD_left hD) hS hA [] rfl)) rfl rfl hl.1 rfl (lv_room (Nat.le_of_ble_eq_true rfl)) dL_addRule_259 ⟨(by show 7 + hds.length + 0 ≤ 15; omega), (by show 47 + 8 * hds.length + 0 ≤ 105; omega)⟩) hS hA hP hD [] rfl (fun _ _ h => by rcases h with ⟨-, rfl⟩; rfl) (fun rr u H locs hw hP hD hS => ?_)
      obtain ⟨rfl, rfl⟩ := hw
      have hP : va_P D vwCl (((wA ty X (nI n) (nI (r + 1)) tn en pl (va_up rf (nI r).toNatClampNeg (some y0)) hn kn on 0 pu gw an ch cg fb mh ml ih lb 0 nn 0) ++ [(z, .inl (ty 0, 11, .inl zf)), (y0, .inr (10, [.int K, .int 0, .int lo, .int up, .int (-1), .int we, .int le, .ref y1, .int (nI hds.length), .ref y2, .int 0])), (y1, .inl (ty 5, 2, .inr (.inr (.inr (.inr (hF hds)))))), (y2, .inl (ty 5, 5, .inr (.inr (.inr (.inr (fun _ => none))))))]) ++ (hds.map lH ++ ([] : List (Nat × Int32 × Nat × Int32)).map lC)) H := hP
      have hD : va_D A (((wA ty X (nI n) (nI (r + 1)) tn en pl (va_up rf (nI r).toNatClampNeg (some y0)) hn kn on 0 pu gw an ch cg fb mh ml ih lb 0 nn 0) ++ [(z, .inl (ty 0, 11, .inl zf)), (y0, .inr (10, [.int K, .int 0, .int lo, .int up, .int (-1), .int we, .int le, .ref y1, .int (nI hds.length), .ref y2, .int 0])), (y1, .inl (ty 5, 2, .inr (.inr (.inr (.inr (hF hds)))))), (y2, .inl (ty 5, 5, .inr (.inr (.inr (.inr (fun _ => none))))))]) ++ (hds.map lH ++ ([] : List (Nat × Int32 × Nat × Int32)).map lC)) := hD
      refine W.widen (k := 7 + hds.length) (n := 47 + 8 * hds.length) (by omega) (by omega) ?_
      refine lv_istore (lv' := [(11, .int (nI p1)), (0, .ref (X 0)), (1, .ref b), (2, .int (nI i)), (3, .int (nI n)), (4, .int (nI r)), (5, .ref z), (8, .int 1), (9, .int (nI hN)), (10, .int (nI hds.length))]) hx hb dL_addRule_262 hl (by decide) rfl (fun ls hl => ?_)
      refine lv_iload hx hb dL_addRule_264 (lv_at hl 7 rfl) ?_
      refine lv_if_eq (tgt := 293) hx hb dL_addRule_266 (by decide) (fun c0 => ((absurd c0 (by decide) : False)).elim) (fun _ => ?_)
      refine lv_aload_n hx hb dL_addRule_269 rfl (lv_at hl 1 rfl) ?_
      refine lv_iload hx hb dL_addRule_270 (lv_at hl 5 rfl) ?_
      refine lv_iconst (v := 2) hx hb dL_addRule_272 (by decide) ?_
      refine lv_iload hx hb dL_addRule_273 (lv_at hl 0 rfl) ?_
      refine lv_bipush (v := 9) hx hb dL_addRule_275 (by decide) ?_
      refine lv_bipush (v := (-9)) hx hb dL_addRule_277 (by decide) ?_
      refine wq_iW (wc := (wW_k_L_atom_2 ty X y0 y1 y2 (nI n) (nI (r + 1)) tn en pl (va_up rf (nI r).toNatClampNeg (some y0)) hn kn on 0 pu gw an ch cg fb mh ml ih lb 0 nn 0 K 0 lo up (-1) we le (nI hds.length) 0 (hF hds))) (va_runS (As := [.ref (X 0), .int (nI r), .int 2, .int (nI p1), .int 9, .int (-9)]) (rest := []) ⟨hx, hb, hml, hown, hts⟩ (k_L_atom_2 l hl9 D ty td mi H.size X (nI n) (nI (r + 1)) tn en pl (va_up rf (nI r).toNatClampNeg (some y0)) hn kn on 0 pu gw an ch cg fb mh ml ih lb 0 nn 0 y0 K 0 lo up (-1) we le y1 (nI hds.length) y2 0 (hF hds) (nI r) (nI p1) 9 (-9) (fun o ho => by rw [e_ruleAt hr20 rf y0] at ho; exact (Option.some.inj ho).symm) (2, nI (hds.length + 1), 104, nI p1, 0, 0, 0, 0, 0, 0, 0, 0, 0, nI (hds.length + 1)) ((e_atom2 hn6 h_p1 (hpl p1 h_p1) (by omega : hds.length < 2) (e_ruleAt hr20 rf y0) (hK9 (by omega)) 0 0 0 9 (-9)).symm)) (va_cwS 6 hts gv_k_L_addRule_L_atom_2 rfl rfl rfl (by decide +kernel) ⟨(Nat.le_of_ble_eq_true rfl), (Nat.le_of_ble_eq_true rfl)⟩) (wm_preS hP hD hK hE hS hA [true, true, true, true, true, true, true, false, true, true] rfl) rfl rfl hl.1 rfl (lv_room (Nat.le_of_ble_eq_true rfl)) dL_addRule_279 ⟨(by show 7 + hds.length + 1 ≤ 15; omega), (by show 47 + 8 * hds.length + 8 ≤ 105; omega)⟩) hS hA hP hD [true, true, true, true, true, true, true, false, true, true] rfl (fun _ _ h => by rcases h with ⟨-, -, rfl⟩ | ⟨_, -, -, rfl⟩ | ⟨_, -, -, rfl⟩ <;> rfl) (fun rr u H locs hw hP hD hS => ?_)
      rcases hw with ⟨c0, -, -⟩ | ⟨_, c0, -, -⟩ | ⟨q9, -, rfl, rfl⟩
      · exact absurd (show (2 : Int32) = 0 from c0) (by decide)
      · exact absurd (show (2 : Int32) = 1 from c0) (by decide)
      have hP : va_P D vwCl (((wA ty X (nI n) (nI (r + 1)) tn en pl (va_up rf (nI r).toNatClampNeg (some y0)) hn kn on 0 pu gw an ch cg fb mh ml ih lb 0 nn 0) ++ [(z, .inl (ty 0, 11, .inl zf)), (y0, .inr (10, [.int K, .int 0, .int lo, .int up, .int (-1), .int we, .int le, .ref y1, .int (nI (hds.length + 1)), .ref y2, .int 0])), (y1, .inl (ty 5, 2, .inr (.inr (.inr (.inr (va_up (hF hds) (nI hds.length).toNatClampNeg (some q9))))))), (y2, .inl (ty 5, 5, .inr (.inr (.inr (.inr (fun _ => none))))))]) ++ ((hds.map lH ++ ([] : List (Nat × Int32 × Nat × Int32)).map lC) ++ [lH (q9, p1)])) H := hP
      have hD : va_D A (((wA ty X (nI n) (nI (r + 1)) tn en pl (va_up rf (nI r).toNatClampNeg (some y0)) hn kn on 0 pu gw an ch cg fb mh ml ih lb 0 nn 0) ++ [(z, .inl (ty 0, 11, .inl zf)), (y0, .inr (10, [.int K, .int 0, .int lo, .int up, .int (-1), .int we, .int le, .ref y1, .int (nI (hds.length + 1)), .ref y2, .int 0])), (y1, .inl (ty 5, 2, .inr (.inr (.inr (.inr (va_up (hF hds) (nI hds.length).toNatClampNeg (some q9))))))), (y2, .inl (ty 5, 5, .inr (.inr (.inr (.inr (fun _ => none))))))]) ++ ((hds.map lH ++ ([] : List (Nat × Int32 × Nat × Int32)).map lC) ++ [lH (q9, p1)])) := hD
      refine W.widen (k := 8 + hds.length) (n := 55 + 8 * hds.length) (by omega) (by omega) ?_
      have e9 : (hds.map lH ++ ([] : List (Nat × Int32 × Nat × Int32)).map lC) ++ [lH (q9, p1)] = (hds ++ [(q9, p1)]).map lH ++ ([] : List (Nat × Int32 × Nat × Int32)).map lC := lits_addH hds (q9, p1)
      rw [e9, kI_nat (show hds.length < 2147483648 by omega), hF_add hds q9 p1] at hP hD
      refine lv_iload hx hb dL_addRule_282 (lv_at hl 9 rfl) ?_
      refine lv_iconst (v := 1) hx hb dL_addRule_284 (by decide) ?_
      refine lv_iadd hx hb dL_addRule_285 ?_
      refine lv_topi (nm_r (e' := nI (hds.length + 1)) (kI_s _) ?_)
      refine lv_icmp_ne (tgt := 293) hx hb dL_addRule_286 (by decide) (fun c0 => (c0 rfl).elim) (fun _ => ?_)
      refine lv_iconst (v := 1) hx hb dL_addRule_289 (by decide) ?_
      refine lv_goto (tgt := 294) hx hb dL_addRule_290 (by decide) ?_
      refine lv_istore (lv' := [(8, .int 1), (11, .int (nI p1)), (0, .ref (X 0)), (1, .ref b), (2, .int (nI i)), (3, .int (nI n)), (4, .int (nI r)), (5, .ref z), (9, .int (nI hN)), (10, .int (nI hds.length))]) hx hb dL_addRule_294 hl (by decide) rfl (fun ls hl => ?_)
      refine lv_aload hx hb dL_addRule_296 (lv_at hl 7 rfl) ?_
      refine lv_iconst (v := 1) hx hb dL_addRule_298 (by decide) ?_
      refine lv_dup2_11 hx hb dL_addRule_299 rfl rfl ?_
      refine va_iald (D := D) hx hb hK hP 7 0 rfl rfl (wi_in (by decide) (by decide)) dL_addRule_300 ?_
      refine lv_iconst (v := 1) hx hb dL_addRule_301 (by decide) ?_
      refine lv_iload hx hb dL_addRule_302 (lv_at hl 1 rfl) ?_
      refine lv_ishl hx hb dL_addRule_304 ?_
      refine lv_ior hx hb dL_addRule_305 ?_
      refine va_iast (D := D) hx hb hK hP hD hS 7 0 rfl rfl (wi_in (by decide) (by decide)) dL_addRule_306 (fun H locs hP hD hS => ?_)
      have hP : va_P D vwCl (((wA ty X (nI n) (nI (r + 1)) tn en pl (va_up rf (nI r).toNatClampNeg (some y0)) hn kn on 0 pu gw an ch cg fb mh ml ih lb 0 nn 0) ++ [(z, .inl (ty 0, 11, .inl (upd zf (1 : Int32).toNatClampNeg (zf (1 : Int32).toNatClampNeg ||| ((1 : Int32) <<< (nI p1 &&& 31)))))), (y0, .inr (10, [.int K, .int 0, .int lo, .int up, .int (-1), .int we, .int le, .ref y1, .int (nI (hds.length + 1)), .ref y2, .int 0])), (y1, .inl (ty 5, 2, .inr (.inr (.inr (.inr (hF (hds ++ [(q9, p1)]))))))), (y2, .inl (ty 5, 5, .inr (.inr (.inr (.inr (fun _ => none))))))]) ++ ((hds ++ [(q9, p1)]).map lH ++ ([] : List (Nat × Int32 × Nat × Int32)).map lC)) H := hP
      have hD : va_D A (((wA ty X (nI n) (nI (r + 1)) tn en pl (va_up rf (nI r).toNatClampNeg (some y0)) hn kn on 0 pu gw an ch cg fb mh ml ih lb 0 nn 0) ++ [(z, .inl (ty 0, 11, .inl (upd zf (1 : Int32).toNatClampNeg (zf (1 : Int32).toNatClampNeg ||| ((1 : Int32) <<< (nI p1 &&& 31)))))), (y0, .inr (10, [.int K, .int 0, .int lo, .int up, .int (-1), .int we, .int le, .ref y1, .int (nI (hds.length + 1)), .ref y2, .int 0])), (y1, .inl (ty 5, 2, .inr (.inr (.inr (.inr (hF (hds ++ [(q9, p1)]))))))), (y2, .inl (ty 5, 5, .inr (.inr (.inr (.inr (fun _ => none))))))]) ++ ((hds ++ [(q9, p1)]).map lH ++ ([] : List (Nat × Int32 × Nat × Int32)).map lC)) := hD
      refine lv_iinc (v := nI (hds.length + 1)) (lv' := [(10, .int (nI (hds.length + 1))), (8, .int 1), (11, .int (nI p1)), (0, .ref (X 0)), (1, .ref b), (2, .int (nI i)), (3, .int (nI n)), (4, .int (nI r)), (5, .ref z), (9, .int (nI hN))]) hx hb dL_addRule_307 hl (k := 9) rfl (kI_s _) (by decide) rfl (fun ls hl => ?_)
      refine lv_goto (tgt := 244) hx hb dL_addRule_310 (by decide) ?_
      have hl : lv_has ls 14 [(0, .ref (X 0)), (1, .ref b), (2, .int (nI i)), (3, .int (nI n)), (4, .int (nI r)), (5, .ref z), (8, .int 1), (9, .int (nI hN)), (10, .int (nI (hds.length + 1)))] := lv_sub hl [3, 4, 5, 6, 7, 8, 1, 9, 0] rfl
      have hlen : (hds ++ [(q9, p1)]).length = hds.length + 1 := by rw [List.length_append]; rfl
      have I2 := IH z y0 y1 y2 K lo up we le (hds ++ [(q9, p1)]) (upd zf (1 : Int32).toNatClampNeg (zf (1 : Int32).toNatClampNeg ||| ((1 : Int32) <<< (nI p1 &&& 31)))) hN (by rw [hlen]; omega) h2N hK9 (rwF_H hF9 (q := q9) h_p1 (by omega) (by omega) (hK9 (by omega)))
      rw [hlen] at I2
      refine W.widen (k := 7 + (hds.length + 1)) (n := 47 + 8 * (hds.length + 1)) (by omega) (by omega) ?_
      exact I2 H locs ls hP hD hS hl
  refine lv_bipush (v := 11) hx hb dL_addRule_0 (by decide) ?_
  refine wq_newa (atype := .int) (tyA := .int) hx hb (hts (.arrayClass .int) (by decide +kernel)) rfl hK hP hD hS hA 0 rfl (n := 11) (N' := 11) (a0 := (11, .inl (fun _ => 0))) (fun _ => rfl) (by decide) (by decide) (Nat.le_of_ble_eq_true rfl) (Nat.le_of_ble_eq_true rfl) (Nat.le_of_ble_eq_true rfl) dL_addRule_2 (fun z H hP hD hS => ?_)
  have hP : va_P D vwCl ((wA ty X (nI n) (nI r) tn en pl rf hn kn on cu pu gw an ch cg fb mh ml ih lb ic nn kp) ++ [(z, .inl (ty 0, 11, .inl (fun _ => 0)))]) H := hP
  have hD : va_D A ((wA ty X (nI n) (nI r) tn en pl rf hn kn on cu pu gw an ch cg fb mh ml ih lb ic nn kp) ++ [(z, .inl (ty 0, 11, .inl (fun _ => 0)))]) := hD
  refine W.widen (k := 1) (n := 11) (by omega) (by omega) ?_
  refine lv_astore (lv' := [(5, .ref z), (0, .ref (X 0)), (1, .ref b), (2, .int (nI i)), (3, .int (nI n)), (4, .int (nI r))]) hx hb dL_addRule_4 hl (by decide) rfl (fun ls hl => ?_)
  refine lv_aload_n hx hb dL_addRule_6 rfl (lv_at hl 2 rfl) ?_
  refine lv_iload_n hx hb dL_addRule_7 rfl (lv_at hl 3 rfl) ?_
  refine lv_bipush (v := 7) hx hb dL_addRule_8 (by decide) ?_
  obtain ⟨w0, h_w0, e_w0⟩ := pick_lt L xs (nI (i)) (m := 7) (by decide) (by decide)
  refine wq_iQW (ws := (wA ty X (nI n) (nI r) tn en pl rf hn kn on cu pu gw an ch cg fb mh ml ih lb ic nn kp)) (pl := [(z, .inl (ty 0, 11, .inl (fun _ => 0)))]) (wc := []) (va_runS (As := [.ref b, .int (nI (i)), .int (nI 7)]) (rest := []) ⟨hx, hb, hml, hown, hts⟩ (k_L_pick l D ty td mi H.size L xs b (nI (i)) (nI 7) (kI_nn (by omega)) (by decide) hL (nI w0) e_w0.symm) (va_cwS 3 hts gv_k_L_addRule_L_pick rfl rfl rfl (by decide +kernel) ⟨(Nat.le_of_ble_eq_true rfl), (Nat.le_of_ble_eq_true rfl)⟩) (wq_preSS (wm_preS (vP_left hP) (vD_left hD) hK hE hS hA [] rfl) hX hbl hbA hS (wm_free (vD_left hD) hS hA [] rfl)) rfl rfl hl.1 rfl (lv_room (Nat.le_of_ble_eq_true rfl)) dL_addRule_10 ⟨(by show 1 + 0 ≤ 15; omega), (by show 11 + 0 ≤ 105; omega)⟩) hS hA hP hD [] rfl (fun _ _ h => by rcases h with ⟨-, rfl⟩; rfl) (fun rr u H locs hw hP hD hS => ?_)
  obtain ⟨rfl, rfl⟩ := hw
  have hP : va_P D vwCl ((wA ty X (nI n) (nI r) tn en pl rf hn kn on cu pu gw an ch cg fb mh ml ih lb ic nn kp) ++ [(z, .inl (ty 0, 11, .inl (fun _ => 0)))]) H := hP
  have hD : va_D A ((wA ty X (nI n) (nI r) tn en pl rf hn kn on cu pu gw an ch cg fb mh ml ih lb ic nn kp) ++ [(z, .inl (ty 0, 11, .inl (fun _ => 0)))]) := hD
  refine W.widen (k := 1) (n := 11) (by omega) (by omega) ?_
  refine lv_istore (lv' := [(6, .int (nI w0)), (5, .ref z), (0, .ref (X 0)), (1, .ref b), (2, .int (nI i)), (3, .int (nI n)), (4, .int (nI r))]) hx hb dL_addRule_13 hl (by decide) rfl (fun ls hl => ?_)
  refine lv_aload hx hb dL_addRule_15 (lv_at hl 1 rfl) ?_
  refine lv_iconst (v := 0) hx hb dL_addRule_17 (by decide) ?_
  refine lv_iload hx hb dL_addRule_18 (lv_at hl 0 rfl) ?_
  refine lv_iconst (v := 4) hx hb dL_addRule_20 (by decide) ?_
  by_cases d4 : w0 < 4
  · refine lv_icmp_ge (tgt := 29) hx hb dL_addRule_21 (by decide) (fun c0 => (nle (a := 4) (b := w0) d4 (by omega) c0).elim) (fun _ => ?_)
    refine lv_bipush (v := 100) hx hb dL_addRule_24 (by decide) ?_
    refine lv_goto (tgt := 43) hx hb dL_addRule_26 (by decide) ?_
    refine va_iast (D := D) hx hb hK hP hD hS 7 0 rfl rfl (wi_in (by decide) (by decide)) dL_addRule_43 (fun H locs hP hD hS => ?_)
    have hP : va_P D vwCl ((wA ty X (nI n) (nI r) tn en pl rf hn kn on cu pu gw an ch cg fb mh ml ih lb ic nn kp) ++ [(z, .inl (ty 0, 11, .inl (upd (fun _ => 0) (0 : Int32).toNatClampNeg 100)))]) H := hP
    have hD : va_D A ((wA ty X (nI n) (nI r) tn en pl rf hn kn on cu pu gw an ch cg fb mh ml ih lb ic nn kp) ++ [(z, .inl (ty 0, 11, .inl (upd (fun _ => 0) (0 : Int32).toNatClampNeg 100)))]) := hD
    refine lv_aload hx hb dL_addRule_44 (lv_at hl 1 rfl) ?_
    refine lv_iconst (v := 2) hx hb dL_addRule_46 (by decide) ?_
    refine lv_aload hx hb dL_addRule_47 (lv_at hl 1 rfl) ?_
    refine lv_iconst (v := 0) hx hb dL_addRule_49 (by decide) ?_
    refine va_iald (D := D) hx hb hK hP 7 0 rfl rfl (wi_in (by decide) (by decide)) dL_addRule_50 ?_
    refine lv_topi (nm_r (e' := 100) (by first | rfl | decide) ?_)
    refine lv_bipush (v := 99) hx hb dL_addRule_51 (by decide) ?_
    refine lv_icmp_ne (tgt := 67) hx hb dL_addRule_53 (by decide) (fun _ => ?_) (fun c0 => ((absurd c0 (by decide) : False)).elim)
    refine lv_aload_n hx hb dL_addRule_67 rfl (lv_at hl 3 rfl) ?_
    refine lv_iload_n hx hb dL_addRule_68 rfl (lv_at hl 4 rfl) ?_
    refine lv_iconst (v := 1) hx hb dL_addRule_69 (by decide) ?_
    refine lv_iadd hx hb dL_addRule_70 ?_
    refine lv_topi (nm_r (e' := nI (i + 1)) (kI_s i) ?_)
    refine lv_bipush (v := 9) hx hb dL_addRule_71 (by decide) ?_
    obtain ⟨w1, h_w1, e_w1⟩ := pick_lt L xs (nI (i + 1)) (m := 9) (by decide) (by decide)
    refine wq_iQW (ws := (wA ty X (nI n) (nI r) tn en pl rf hn kn on cu pu gw an ch cg fb mh ml ih lb ic nn kp)) (pl := [(z, .inl (ty 0, 11, .inl (upd (fun _ => 0) (0 : Int32).toNatClampNeg 100)))]) (wc := []) (va_runS (As := [.ref b, .int (nI (i + 1)), .int (nI 9)]) (rest := [.int 2, .ref z]) ⟨hx, hb, hml, hown, hts⟩ (k_L_pick l D ty td mi H.size L xs b (nI (i + 1)) (nI 9) (kI_nn (by omega)) (by decide) hL (nI w1) e_w1.symm) (va_cwS 3 hts gv_k_L_addRule_L_pick rfl rfl rfl (by decide +kernel) ⟨(Nat.le_of_ble_eq_true rfl), (Nat.le_of_ble_eq_true rfl)⟩) (wq_preSS (wm_preS (vP_left hP) (vD_left hD) hK hE hS hA [] rfl) hX hbl hbA hS (wm_free (vD_left hD) hS hA [] rfl)) rfl rfl hl.1 rfl (lv_room (Nat.le_of_ble_eq_true rfl)) dL_addRule_73 ⟨(by show 1 + 0 ≤ 15; omega), (by show 11 + 0 ≤ 105; omega)⟩) hS hA hP hD [] rfl (fun _ _ h => by rcases h with ⟨-, rfl⟩; rfl) (fun rr u H locs hw hP hD hS => ?_)
    obtain ⟨rfl, rfl⟩ := hw
    have hP : va_P D vwCl ((wA ty X (nI n) (nI r) tn en pl rf hn kn on cu pu gw an ch cg fb mh ml ih lb ic nn kp) ++ [(z, .inl (ty 0, 11, .inl (upd (fun _ => 0) (0 : Int32).toNatClampNeg 100)))]) H := hP
    have hD : va_D A ((wA ty X (nI n) (nI r) tn en pl rf hn kn on cu pu gw an ch cg fb mh ml ih lb ic nn kp) ++ [(z, .inl (ty 0, 11, .inl (upd (fun _ => 0) (0 : Int32).toNatClampNeg 100)))]) := hD
    refine W.widen (k := 1) (n := 11) (by omega) (by omega) ?_
    refine lv_iconst (v := 4) hx hb dL_addRule_76 (by decide) ?_
    refine lv_isub hx hb dL_addRule_77 ?_
    refine va_iast (D := D) hx hb hK hP hD hS 7 0 rfl rfl (wi_in (by decide) (by decide)) dL_addRule_78 (fun H locs hP hD hS => ?_)
    have hP : va_P D vwCl ((wA ty X (nI n) (nI r) tn en pl rf hn kn on cu pu gw an ch cg fb mh ml ih lb ic nn kp) ++ [(z, .inl (ty 0, 11, .inl (upd (upd (fun _ => 0) (0 : Int32).toNatClampNeg 100) (2 : Int32).toNatClampNeg (nI w1 - 4))))]) H := hP
    have hD : va_D A ((wA ty X (nI n) (nI r) tn en pl rf hn kn on cu pu gw an ch cg fb mh ml ih lb ic nn kp) ++ [(z, .inl (ty 0, 11, .inl (upd (upd (fun _ => 0) (0 : Int32).toNatClampNeg 100) (2 : Int32).toNatClampNeg (nI w1 - 4))))]) := hD
    refine lv_aload hx hb dL_addRule_79 (lv_at hl 1 rfl) ?_
    refine lv_iconst (v := 3) hx hb dL_addRule_81 (by decide) ?_
    refine lv_aload hx hb dL_addRule_82 (lv_at hl 1 rfl) ?_
    refine lv_iconst (v := 0) hx hb dL_addRule_84 (by decide) ?_
    refine va_iald (D := D) hx hb hK hP 7 0 rfl rfl (wi_in (by decide) (by decide)) dL_addRule_85 ?_
    refine lv_topi (nm_r (e' := 100) (by first | rfl | decide) ?_)
    refine lv_bipush (v := 99) hx hb dL_addRule_86 (by decide) ?_
    refine lv_icmp_ne (tgt := 107) hx hb dL_addRule_88 (by decide) (fun _ => ?_) (fun c0 => ((absurd c0 (by decide) : False)).elim)
    refine lv_iconst (v := 1) hx hb dL_addRule_107 (by decide) ?_
    refine lv_aload_n hx hb dL_addRule_108 rfl (lv_at hl 3 rfl) ?_
    refine lv_iload_n hx hb dL_addRule_109 rfl (lv_at hl 4 rfl) ?_
    refine lv_iconst (v := 2) hx hb dL_addRule_110 (by decide) ?_
    refine lv_iadd hx hb dL_addRule_111 ?_
    refine lv_topi (nm_r (e' := nI (i + 2)) (nI_add i 2) ?_)
    refine lv_iconst (v := 3) hx hb dL_addRule_112 (by decide) ?_
    obtain ⟨w2, h_w2, e_w2⟩ := pick_lt L xs (nI (i + 2)) (m := 3) (by decide) (by decide)
    refine wq_iQW (ws := (wA ty X (nI n) (nI r) tn en pl rf hn kn on cu pu gw an ch cg fb mh ml ih lb ic nn kp)) (pl := [(z, .inl (ty 0, 11, .inl (upd (upd (fun _ => 0) (0 : Int32).toNatClampNeg 100) (2 : Int32).toNatClampNeg (nI w1 - 4))))]) (wc := []) (va_runS (As := [.ref b, .int (nI (i + 2)), .int (nI 3)]) (rest := [.int 1, .int 3, .ref z]) ⟨hx, hb, hml, hown, hts⟩ (k_L_pick l D ty td mi H.size L xs b (nI (i + 2)) (nI 3) (kI_nn (by omega)) (by decide) hL (nI w2) e_w2.symm) (va_cwS 3 hts gv_k_L_addRule_L_pick rfl rfl rfl (by decide +kernel) ⟨(Nat.le_of_ble_eq_true rfl), (Nat.le_of_ble_eq_true rfl)⟩) (wq_preSS (wm_preS (vP_left hP) (vD_left hD) hK hE hS hA [] rfl) hX hbl hbA hS (wm_free (vD_left hD) hS hA [] rfl)) rfl rfl hl.1 rfl (lv_room (Nat.le_of_ble_eq_true rfl)) dL_addRule_113 ⟨(by show 1 + 0 ≤ 15; omega), (by show 11 + 0 ≤ 105; omega)⟩) hS hA hP hD [] rfl (fun _ _ h => by rcases h with ⟨-, rfl⟩; rfl) (fun rr u H locs hw hP hD hS => ?_)
    obtain ⟨rfl, rfl⟩ := hw
    have hP : va_P D vwCl ((wA ty X (nI n) (nI r) tn en pl rf hn kn on cu pu gw an ch cg fb mh ml ih lb ic nn kp) ++ [(z, .inl (ty 0, 11, .inl (upd (upd (fun _ => 0) (0 : Int32).toNatClampNeg 100) (2 : Int32).toNatClampNeg (nI w1 - 4))))]) H := hP
    have hD : va_D A ((wA ty X (nI n) (nI r) tn en pl rf hn kn on cu pu gw an ch cg fb mh ml ih lb ic nn kp) ++ [(z, .inl (ty 0, 11, .inl (upd (upd (fun _ => 0) (0 : Int32).toNatClampNeg 100) (2 : Int32).toNatClampNeg (nI w1 - 4))))]) := hD
    refine W.widen (k := 1) (n := 11) (by omega) (by omega) ?_
    refine lv_iadd hx hb dL_addRule_116 ?_
    refine lv_topi (nm_r (e' := nI (1 + w2)) (nI_add 1 w2) ?_)
    refine va_iast (D := D) hx hb hK hP hD hS 7 0 rfl rfl (wi_in (by decide) (by decide)) dL_addRule_117 (fun H locs hP hD hS => ?_)
    have hP : va_P D vwCl ((wA ty X (nI n) (nI r) tn en pl rf hn kn on cu pu gw an ch cg fb mh ml ih lb ic nn kp) ++ [(z, .inl (ty 0, 11, .inl (upd (upd (upd (fun _ => 0) (0 : Int32).toNatClampNeg 100) (2 : Int32).toNatClampNeg (nI w1 - 4)) (3 : Int32).toNatClampNeg (nI (1 + w2)))))]) H := hP
    have hD : va_D A ((wA ty X (nI n) (nI r) tn en pl rf hn kn on cu pu gw an ch cg fb mh ml ih lb ic nn kp) ++ [(z, .inl (ty 0, 11, .inl (upd (upd (upd (fun _ => 0) (0 : Int32).toNatClampNeg 100) (2 : Int32).toNatClampNeg (nI w1 - 4)) (3 : Int32).toNatClampNeg (nI (1 + w2)))))]) := hD
    refine lv_aload hx hb dL_addRule_118 (lv_at hl 1 rfl) ?_
    refine lv_iconst (v := 0) hx hb dL_addRule_120 (by decide) ?_
    refine va_iald (D := D) hx hb hK hP 7 0 rfl rfl (wi_in (by decide) (by decide)) dL_addRule_121 ?_
    refine lv_topi (nm_r (e' := 100) (by first | rfl | decide) ?_)
    refine lv_bipush (v := 100) hx hb dL_addRule_122 (by decide) ?_
    refine lv_icmp_ne (tgt := 140) hx hb dL_addRule_124 (by decide) (fun c0 => (c0 rfl).elim) (fun _ => ?_)
    refine lv_aload_n hx hb dL_addRule_127 rfl (lv_at hl 2 rfl) ?_
    refine lv_iconst (v := 1) hx hb dL_addRule_128 (by decide) ?_
    refine lv_iconst (v := 0) hx hb dL_addRule_129 (by decide) ?_
    refine lv_iconst (v := 0) hx hb dL_addRule_130 (by decide) ?_
    refine lv_iconst (v := 0) hx hb dL_addRule_131 (by decide) ?_
    refine lv_iconst (v := 0) hx hb dL_addRule_132 (by decide) ?_
    refine lv_iconst (v := 0) hx hb dL_addRule_133 (by decide) ?_
    refine wq_xiW (wc := (wW_k_L_deed_1 ty X (nI n) (nI r) tn en rf hn kn on cu pu gw an ch cg fb mh ml ih lb ic nn kp)) (vx_runSX (As := [.ref (X 0), .int 1, .int 0, .int 0, .int 0, .int 0, .int 0]) (rest := []) ⟨hx, hb, hml, hown, hts⟩ (k_L_deed_1 l hl9 D ty td mi H.size X (nI n) (nI r) tn en rf hn kn on cu pu gw an ch cg fb mh ml ih lb ic nn kp 0 0 0 0 0 (2, nI r, 100, 0, 0, 0, 0, (-1), 0, 0, 0, nI (r + 1), 0, 0, 0) ((e_deed1 hr20 cu ic kp).symm)) (vx_cwSW 7 hts gv_k_L_addRule_L_deed_1 rfl rfl rfl (by decide +kernel) ⟨(Nat.le_of_ble_eq_true rfl), (Nat.le_of_ble_eq_true rfl)⟩) (wm_preS hP hD hK hE hS hA [true, true, false, true, true, true, true] rfl) rfl rfl hl.1 rfl (lv_room (Nat.le_of_ble_eq_true rfl)) dL_addRule_134 ⟨(by show 1 + 5 ≤ 15; omega), (by show 11 + 30 ≤ 105; omega)⟩) hS hA hP hD [true, true, false, true, true, true, true] rfl (fun _ _ h => by rcases h with ⟨-, -, rfl⟩ | ⟨_, _, _, -, -, rfl⟩ | ⟨_, _, _, -, -, rfl⟩ <;> rfl) (fun _ _ h => h.elim) (fun E9 u H locs q9 ce hw hP hD hS hce hcv hcl => hw.elim) (fun rr u H locs hw hP hD hS => ?_)
    rcases hw with ⟨c0, -, -⟩ | ⟨_, _, _, c0, -, -⟩ | ⟨y0, y1, y2, -, rfl, rfl⟩
    · exact absurd (show (2 : Int32) = 0 from c0) (by decide)
    · exact absurd (show (2 : Int32) = 1 from c0) (by decide)
    have hP : va_P D vwCl ((wA ty X (nI n) (nI (r + 1)) tn en pl (va_up rf (nI r).toNatClampNeg (some y0)) hn kn on 0 pu gw an ch cg fb mh ml ih lb 0 nn 0) ++ [(z, .inl (ty 0, 11, .inl (upd (upd (upd (fun _ => 0) (0 : Int32).toNatClampNeg 100) (2 : Int32).toNatClampNeg (nI w1 - 4)) (3 : Int32).toNatClampNeg (nI (1 + w2))))), (y0, .inr (10, [.int 100, .int 0, .int 0, .int 0, .int (-1), .int 0, .int 0, .ref y1, .int 0, .ref y2, .int 0])), (y1, .inl (ty 5, 2, .inr (.inr (.inr (.inr (fun _ => none)))))), (y2, .inl (ty 5, 5, .inr (.inr (.inr (.inr (fun _ => none))))))]) H := hP
    have hD : va_D A ((wA ty X (nI n) (nI (r + 1)) tn en pl (va_up rf (nI r).toNatClampNeg (some y0)) hn kn on 0 pu gw an ch cg fb mh ml ih lb 0 nn 0) ++ [(z, .inl (ty 0, 11, .inl (upd (upd (upd (fun _ => 0) (0 : Int32).toNatClampNeg 100) (2 : Int32).toNatClampNeg (nI w1 - 4)) (3 : Int32).toNatClampNeg (nI (1 + w2))))), (y0, .inr (10, [.int 100, .int 0, .int 0, .int 0, .int (-1), .int 0, .int 0, .ref y1, .int 0, .ref y2, .int 0])), (y1, .inl (ty 5, 2, .inr (.inr (.inr (.inr (fun _ => none)))))), (y2, .inl (ty 5, 5, .inr (.inr (.inr (.inr (fun _ => none))))))]) := hD
    refine W.widen (k := 6) (n := 41) (by omega) (by omega) ?_
    refine lv_goto (tgt := 184) hx hb dL_addRule_137 (by decide) ?_
    refine W.widen (k := 7) (n := 47) (by omega) (by omega) ?_
    refine lv_istore (lv' := [(7, .int (nI r)), (6, .int (nI w0)), (5, .ref z), (0, .ref (X 0)), (1, .ref b), (2, .int (nI i)), (3, .int (nI n)), (4, .int (nI r))]) hx hb dL_addRule_184 hl (by decide) rfl (fun ls hl => ?_)
    refine lv_iload hx hb dL_addRule_186 (lv_at hl 0 rfl) ?_
    refine lv_iload hx hb dL_addRule_188 (lv_at hl 7 rfl) ?_
    refine lv_icmp_ne (tgt := 197) hx hb dL_addRule_190 (by decide) (fun c0 => (c0 rfl).elim) (fun _ => ?_)
    have hP : va_P D vwCl (((wA ty X (nI n) (nI (r + 1)) tn en pl (va_up rf (nI r).toNatClampNeg (some y0)) hn kn on 0 pu gw an ch cg fb mh ml ih lb 0 nn 0) ++ [(z, .inl (ty 0, 11, .inl (upd (upd (upd (fun _ => 0) (0 : Int32).toNatClampNeg 100) (2 : Int32).toNatClampNeg (nI w1 - 4)) (3 : Int32).toNatClampNeg (nI (1 + w2))))), (y0, .inr (10, [.int 100, .int 0, .int 0, .int 0, .int (-1), .int 0, .int 0, .ref y1, .int 0, .ref y2, .int 0])), (y1, .inl (ty 5, 2, .inr (.inr (.inr (.inr (fun _ => none)))))), (y2, .inl (ty 5, 5, .inr (.inr (.inr (.inr (fun _ => none))))))]) ++ []) H := hP
    have hD : va_D A (((wA ty X (nI n) (nI (r + 1)) tn en pl (va_up rf (nI r).toNatClampNeg (some y0)) hn kn on 0 pu gw an ch cg fb mh ml ih lb 0 nn 0) ++ [(z, .inl (ty 0, 11, .inl (upd (upd (upd (fun _ => 0) (0 : Int32).toNatClampNeg 100) (2 : Int32).toNatClampNeg (nI w1 - 4)) (3 : Int32).toNatClampNeg (nI (1 + w2))))), (y0, .inr (10, [.int 100, .int 0, .int 0, .int 0, .int (-1), .int 0, .int 0, .ref y1, .int 0, .ref y2, .int 0])), (y1, .inl (ty 5, 2, .inr (.inr (.inr (.inr (fun _ => none)))))), (y2, .inl (ty 5, 5, .inr (.inr (.inr (.inr (fun _ => none))))))]) ++ []) := hD
    refine lv_iconst (v := 1) hx hb dL_addRule_193 (by decide) ?_
    refine lv_goto (tgt := 198) hx hb dL_addRule_194 (by decide) ?_
    refine lv_istore (lv' := [(8, .int 1), (7, .int (nI r)), (6, .int (nI w0)), (5, .ref z), (0, .ref (X 0)), (1, .ref b), (2, .int (nI i)), (3, .int (nI n)), (4, .int (nI r))]) hx hb dL_addRule_198 hl (by decide) rfl (fun ls hl => ?_)
    refine lv_aload hx hb dL_addRule_200 (lv_at hl 3 rfl) ?_
    refine lv_iconst (v := 0) hx hb dL_addRule_202 (by decide) ?_
    refine va_iald (D := D) hx hb hK hP 7 0 rfl rfl (wi_in (by decide) (by decide)) dL_addRule_203 ?_
    refine lv_topi (nm_r (e' := 100) (by first | rfl | decide) ?_)
    refine lv_bipush (v := 119) hx hb dL_addRule_204 (by decide) ?_
    refine lv_icmp_ne (tgt := 213) hx hb dL_addRule_206 (by decide) (fun _ => ?_) (fun c0 => ((absurd c0 (by decide) : False)).elim)
    refine lv_aload_n hx hb dL_addRule_213 rfl (lv_at hl 5 rfl) ?_
    refine lv_iload_n hx hb dL_addRule_214 rfl (lv_at hl 6 rfl) ?_
    refine lv_iconst (v := 3) hx hb dL_addRule_215 (by decide) ?_
    refine lv_iadd hx hb dL_addRule_216 ?_
    refine lv_topi (nm_r (e' := nI (i + 3)) (nI_add i 3) ?_)
    refine lv_bipush (v := 8) hx hb dL_addRule_217 (by decide) ?_
    obtain ⟨w5, h_w5, e_w5⟩ := pick_lt L xs (nI (i + 3)) (m := 8) (by decide) (by decide)
    refine wq_iQW (ws := ((wA ty X (nI n) (nI (r + 1)) tn en pl (va_up rf (nI r).toNatClampNeg (some y0)) hn kn on 0 pu gw an ch cg fb mh ml ih lb 0 nn 0) ++ [(z, .inl (ty 0, 11, .inl (upd (upd (upd (fun _ => 0) (0 : Int32).toNatClampNeg 100) (2 : Int32).toNatClampNeg (nI w1 - 4)) (3 : Int32).toNatClampNeg (nI (1 + w2))))), (y0, .inr (10, [.int 100, .int 0, .int 0, .int 0, .int (-1), .int 0, .int 0, .ref y1, .int 0, .ref y2, .int 0])), (y1, .inl (ty 5, 2, .inr (.inr (.inr (.inr (fun _ => none)))))), (y2, .inl (ty 5, 5, .inr (.inr (.inr (.inr (fun _ => none))))))])) (pl := []) (wc := []) (va_runS (As := [.ref b, .int (nI (i + 3)), .int (nI 8)]) (rest := []) ⟨hx, hb, hml, hown, hts⟩ (k_L_pick l D ty td mi H.size L xs b (nI (i + 3)) (nI 8) (kI_nn (by omega)) (by decide) hL (nI w5) e_w5.symm) (va_cwS 3 hts gv_k_L_addRule_L_pick rfl rfl rfl (by decide +kernel) ⟨(Nat.le_of_ble_eq_true rfl), (Nat.le_of_ble_eq_true rfl)⟩) (wq_preSS (wm_preS (vP_left hP) (vD_left hD) hK hE hS hA [] rfl) hX hbl hbA hS (wm_free (vD_left hD) hS hA [] rfl)) rfl rfl hl.1 rfl (lv_room (Nat.le_of_ble_eq_true rfl)) dL_addRule_219 ⟨(by show 7 + 0 ≤ 15; omega), (by show 47 + 0 ≤ 105; omega)⟩) hS hA hP hD [] rfl (fun _ _ h => by rcases h with ⟨-, rfl⟩; rfl) (fun rr u H locs hw hP hD hS => ?_)
    obtain ⟨rfl, rfl⟩ := hw
    have hP : va_P D vwCl (((wA ty X (nI n) (nI (r + 1)) tn en pl (va_up rf (nI r).toNatClampNeg (some y0)) hn kn on 0 pu gw an ch cg fb mh ml ih lb 0 nn 0) ++ [(z, .inl (ty 0, 11, .inl (upd (upd (upd (fun _ => 0) (0 : Int32).toNatClampNeg 100) (2 : Int32).toNatClampNeg (nI w1 - 4)) (3 : Int32).toNatClampNeg (nI (1 + w2))))), (y0, .inr (10, [.int 100, .int 0, .int 0, .int 0, .int (-1), .int 0, .int 0, .ref y1, .int 0, .ref y2, .int 0])), (y1, .inl (ty 5, 2, .inr (.inr (.inr (.inr (fun _ => none)))))), (y2, .inl (ty 5, 5, .inr (.inr (.inr (.inr (fun _ => none))))))]) ++ []) H := hP
    have hD : va_D A (((wA ty X (nI n) (nI (r + 1)) tn en pl (va_up rf (nI r).toNatClampNeg (some y0)) hn kn on 0 pu gw an ch cg fb mh ml ih lb 0 nn 0) ++ [(z, .inl (ty 0, 11, .inl (upd (upd (upd (fun _ => 0) (0 : Int32).toNatClampNeg 100) (2 : Int32).toNatClampNeg (nI w1 - 4)) (3 : Int32).toNatClampNeg (nI (1 + w2))))), (y0, .inr (10, [.int 100, .int 0, .int 0, .int 0, .int (-1), .int 0, .int 0, .ref y1, .int 0, .ref y2, .int 0])), (y1, .inl (ty 5, 2, .inr (.inr (.inr (.inr (fun _ => none)))))), (y2, .inl (ty 5, 5, .inr (.inr (.inr (.inr (fun _ => none))))))]) ++ []) := hD
    refine W.widen (k := 7) (n := 47) (by omega) (by omega) ?_
    by_cases d8 : w5 = 0
    · refine lv_if_ne (tgt := 229) hx hb dL_addRule_222 (by decide) (fun c0 => (c0 (by rw [d8]; rfl)).elim) (fun _ => ?_)
      refine lv_iconst (v := 0) hx hb dL_addRule_225 (by decide) ?_
      refine lv_goto (tgt := 239) hx hb dL_addRule_226 (by decide) ?_
      refine lv_istore (lv' := [(9, .int 0), (8, .int 1), (7, .int (nI r)), (6, .int (nI w0)), (5, .ref z), (0, .ref (X 0)), (1, .ref b), (2, .int (nI i)), (3, .int (nI n)), (4, .int (nI r))]) hx hb dL_addRule_239 hl (by decide) rfl (fun ls hl => ?_)
      refine lv_iconst (v := 0) hx hb dL_addRule_241 (by decide) ?_
      refine lv_istore (lv' := [(10, .int 0), (9, .int 0), (8, .int 1), (7, .int (nI r)), (6, .int (nI w0)), (5, .ref z), (0, .ref (X 0)), (1, .ref b), (2, .int (nI i)), (3, .int (nI n)), (4, .int (nI r))]) hx hb dL_addRule_242 hl (by decide) rfl (fun ls hl => ?_)
      have hl : lv_has ls 14 [(0, .ref (X 0)), (1, .ref b), (2, .int (nI i)), (3, .int (nI n)), (4, .int (nI r)), (5, .ref z), (8, .int 1), (9, .int 0), (10, .int 0)] := lv_sub hl [6, 7, 8, 9, 10, 5, 2, 1, 0] rfl
      exact L1 (0) z y0 y1 y2 100 0 0 0 0 [] (upd (upd (upd (fun _ => 0) (0 : Int32).toNatClampNeg 100) (2 : Int32).toNatClampNeg (nI w1 - 4)) (3 : Int32).toNatClampNeg (nI (1 + w2))) (0) (Nat.zero_add _) (by omega) (fun _ => by decide) (rwF_init (Or.inl rfl) (w9 w1 h_w1).2.2 (w3b (1 + w2) (by omega)) (fun e9 => absurd e9 (by decide)) (fun e9 => absurd e9 (by decide))) H locs ls hP hD hS hl
    · refine lv_if_ne (tgt := 229) hx hb dL_addRule_222 (by decide) (fun _ => ?_) (fun c0 => (d8 ((kI_eq (a := w5) (b := 0) (by omega) (by omega)).mp c0)).elim)
      refine lv_iconst (v := 1) hx hb dL_addRule_229 (by decide) ?_
      refine lv_aload_n hx hb dL_addRule_230 rfl (lv_at hl 5 rfl) ?_
      refine lv_iload_n hx hb dL_addRule_231 rfl (lv_at hl 6 rfl) ?_
      refine lv_iconst (v := 4) hx hb dL_addRule_232 (by decide) ?_
      refine lv_iadd hx hb dL_addRule_233 ?_
      refine lv_topi (nm_r (e' := nI (i + 4)) (nI_add i 4) ?_)
      refine lv_iconst (v := 2) hx hb dL_addRule_234 (by decide) ?_
      obtain ⟨w6, h_w6, e_w6⟩ := pick_lt L xs (nI (i + 4)) (m := 2) (by decide) (by decide)
      refine wq_iQW (ws := ((wA ty X (nI n) (nI (r + 1)) tn en pl (va_up rf (nI r).toNatClampNeg (some y0)) hn kn on 0 pu gw an ch cg fb mh ml ih lb 0 nn 0) ++ [(z, .inl (ty 0, 11, .inl (upd (upd (upd (fun _ => 0) (0 : Int32).toNatClampNeg 100) (2 : Int32).toNatClampNeg (nI w1 - 4)) (3 : Int32).toNatClampNeg (nI (1 + w2))))), (y0, .inr (10, [.int 100, .int 0, .int 0, .int 0, .int (-1), .int 0, .int 0, .ref y1, .int 0, .ref y2, .int 0])), (y1, .inl (ty 5, 2, .inr (.inr (.inr (.inr (fun _ => none)))))), (y2, .inl (ty 5, 5, .inr (.inr (.inr (.inr (fun _ => none))))))])) (pl := []) (wc := []) (va_runS (As := [.ref b, .int (nI (i + 4)), .int (nI 2)]) (rest := [.int 1]) ⟨hx, hb, hml, hown, hts⟩ (k_L_pick l D ty td mi H.size L xs b (nI (i + 4)) (nI 2) (kI_nn (by omega)) (by decide) hL (nI w6) e_w6.symm) (va_cwS 3 hts gv_k_L_addRule_L_pick rfl rfl rfl (by decide +kernel) ⟨(Nat.le_of_ble_eq_true rfl), (Nat.le_of_ble_eq_true rfl)⟩) (wq_preSS (wm_preS (vP_left hP) (vD_left hD) hK hE hS hA [] rfl) hX hbl hbA hS (wm_free (vD_left hD) hS hA [] rfl)) rfl rfl hl.1 rfl (lv_room (Nat.le_of_ble_eq_true rfl)) dL_addRule_235 ⟨(by show 7 + 0 ≤ 15; omega), (by show 47 + 0 ≤ 105; omega)⟩) hS hA hP hD [] rfl (fun _ _ h => by rcases h with ⟨-, rfl⟩; rfl) (fun rr u H locs hw hP hD hS => ?_)
      obtain ⟨rfl, rfl⟩ := hw
      have hP : va_P D vwCl (((wA ty X (nI n) (nI (r + 1)) tn en pl (va_up rf (nI r).toNatClampNeg (some y0)) hn kn on 0 pu gw an ch cg fb mh ml ih lb 0 nn 0) ++ [(z, .inl (ty 0, 11, .inl (upd (upd (upd (fun _ => 0) (0 : Int32).toNatClampNeg 100) (2 : Int32).toNatClampNeg (nI w1 - 4)) (3 : Int32).toNatClampNeg (nI (1 + w2))))), (y0, .inr (10, [.int 100, .int 0, .int 0, .int 0, .int (-1), .int 0, .int 0, .ref y1, .int 0, .ref y2, .int 0])), (y1, .inl (ty 5, 2, .inr (.inr (.inr (.inr (fun _ => none)))))), (y2, .inl (ty 5, 5, .inr (.inr (.inr (.inr (fun _ => none))))))]) ++ []) H := hP
      have hD : va_D A (((wA ty X (nI n) (nI (r + 1)) tn en pl (va_up rf (nI r).toNatClampNeg (some y0)) hn kn on 0 pu gw an ch cg fb mh ml ih lb 0 nn 0) ++ [(z, .inl (ty 0, 11, .inl (upd (upd (upd (fun _ => 0) (0 : Int32).toNatClampNeg 100) (2 : Int32).toNatClampNeg (nI w1 - 4)) (3 : Int32).toNatClampNeg (nI (1 + w2))))), (y0, .inr (10, [.int 100, .int 0, .int 0, .int 0, .int (-1), .int 0, .int 0, .ref y1, .int 0, .ref y2, .int 0])), (y1, .inl (ty 5, 2, .inr (.inr (.inr (.inr (fun _ => none)))))), (y2, .inl (ty 5, 5, .inr (.inr (.inr (.inr (fun _ => none))))))]) ++ []) := hD
      refine W.widen (k := 7) (n := 47) (by omega) (by omega) ?_
      refine lv_iadd hx hb dL_addRule_238 ?_
      refine lv_topi (nm_r (e' := nI (1 + w6)) (nI_add 1 w6) ?_)
      refine lv_istore (lv' := [(9, .int (nI (1 + w6))), (8, .int 1), (7, .int (nI r)), (6, .int (nI w0)), (5, .ref z), (0, .ref (X 0)), (1, .ref b), (2, .int (nI i)), (3, .int (nI n)), (4, .int (nI r))]) hx hb dL_addRule_239 hl (by decide) rfl (fun ls hl => ?_)
      refine lv_iconst (v := 0) hx hb dL_addRule_241 (by decide) ?_
      refine lv_istore (lv' := [(10, .int 0), (9, .int (nI (1 + w6))), (8, .int 1), (7, .int (nI r)), (6, .int (nI w0)), (5, .ref z), (0, .ref (X 0)), (1, .ref b), (2, .int (nI i)), (3, .int (nI n)), (4, .int (nI r))]) hx hb dL_addRule_242 hl (by decide) rfl (fun ls hl => ?_)
      have hl : lv_has ls 14 [(0, .ref (X 0)), (1, .ref b), (2, .int (nI i)), (3, .int (nI n)), (4, .int (nI r)), (5, .ref z), (8, .int 1), (9, .int (nI (1 + w6))), (10, .int 0)] := lv_sub hl [6, 7, 8, 9, 10, 5, 2, 1, 0] rfl
      exact L1 (1 + w6) z y0 y1 y2 100 0 0 0 0 [] (upd (upd (upd (fun _ => 0) (0 : Int32).toNatClampNeg 100) (2 : Int32).toNatClampNeg (nI w1 - 4)) (3 : Int32).toNatClampNeg (nI (1 + w2))) (1 + w6) (Nat.zero_add _) (by omega) (fun _ => by decide) (rwF_init (Or.inl rfl) (w9 w1 h_w1).2.2 (w3b (1 + w2) (by omega)) (fun e9 => absurd e9 (by decide)) (fun e9 => absurd e9 (by decide))) H locs ls hP hD hS hl
  · by_cases d6 : w0 < 6
    · refine lv_icmp_ge (tgt := 29) hx hb dL_addRule_21 (by decide) (fun _ => ?_) (fun c0 => (c0 ((kI_le (a := 4) (b := w0) (by omega) (by omega)).mpr (by omega))).elim)
      refine lv_iload hx hb dL_addRule_29 (lv_at hl 0 rfl) ?_
      refine lv_bipush (v := 6) hx hb dL_addRule_31 (by decide) ?_
      refine lv_icmp_ge (tgt := 41) hx hb dL_addRule_33 (by decide) (fun c0 => (nle (a := 6) (b := w0) d6 (by omega) c0).elim) (fun _ => ?_)
      refine lv_bipush (v := 99) hx hb dL_addRule_36 (by decide) ?_
      refine lv_goto (tgt := 43) hx hb dL_addRule_38 (by decide) ?_
      refine va_iast (D := D) hx hb hK hP hD hS 7 0 rfl rfl (wi_in (by decide) (by decide)) dL_addRule_43 (fun H locs hP hD hS => ?_)
      have hP : va_P D vwCl ((wA ty X (nI n) (nI r) tn en pl rf hn kn on cu pu gw an ch cg fb mh ml ih lb ic nn kp) ++ [(z, .inl (ty 0, 11, .inl (upd (fun _ => 0) (0 : Int32).toNatClampNeg 99)))]) H := hP
      have hD : va_D A ((wA ty X (nI n) (nI r) tn en pl rf hn kn on cu pu gw an ch cg fb mh ml ih lb ic nn kp) ++ [(z, .inl (ty 0, 11, .inl (upd (fun _ => 0) (0 : Int32).toNatClampNeg 99)))]) := hD
      refine lv_aload hx hb dL_addRule_44 (lv_at hl 1 rfl) ?_
      refine lv_iconst (v := 2) hx hb dL_addRule_46 (by decide) ?_
      refine lv_aload hx hb dL_addRule_47 (lv_at hl 1 rfl) ?_
      refine lv_iconst (v := 0) hx hb dL_addRule_49 (by decide) ?_
      refine va_iald (D := D) hx hb hK hP 7 0 rfl rfl (wi_in (by decide) (by decide)) dL_addRule_50 ?_
      refine lv_topi (nm_r (e' := 99) (by first | rfl | decide) ?_)
      refine lv_bipush (v := 99) hx hb dL_addRule_51 (by decide) ?_
      refine lv_icmp_ne (tgt := 67) hx hb dL_addRule_53 (by decide) (fun c0 => (c0 rfl).elim) (fun _ => ?_)
      refine lv_aload_n hx hb dL_addRule_56 rfl (lv_at hl 3 rfl) ?_
      refine lv_iload_n hx hb dL_addRule_57 rfl (lv_at hl 4 rfl) ?_
      refine lv_iconst (v := 1) hx hb dL_addRule_58 (by decide) ?_
      refine lv_iadd hx hb dL_addRule_59 ?_
      refine lv_topi (nm_r (e' := nI (i + 1)) (kI_s i) ?_)
      refine lv_iconst (v := 2) hx hb dL_addRule_60 (by decide) ?_
      obtain ⟨w1, h_w1, e_w1⟩ := pick_lt L xs (nI (i + 1)) (m := 2) (by decide) (by decide)
      refine wq_iQW (ws := (wA ty X (nI n) (nI r) tn en pl rf hn kn on cu pu gw an ch cg fb mh ml ih lb ic nn kp)) (pl := [(z, .inl (ty 0, 11, .inl (upd (fun _ => 0) (0 : Int32).toNatClampNeg 99)))]) (wc := []) (va_runS (As := [.ref b, .int (nI (i + 1)), .int (nI 2)]) (rest := [.int 2, .ref z]) ⟨hx, hb, hml, hown, hts⟩ (k_L_pick l D ty td mi H.size L xs b (nI (i + 1)) (nI 2) (kI_nn (by omega)) (by decide) hL (nI w1) e_w1.symm) (va_cwS 3 hts gv_k_L_addRule_L_pick rfl rfl rfl (by decide +kernel) ⟨(Nat.le_of_ble_eq_true rfl), (Nat.le_of_ble_eq_true rfl)⟩) (wq_preSS (wm_preS (vP_left hP) (vD_left hD) hK hE hS hA [] rfl) hX hbl hbA hS (wm_free (vD_left hD) hS hA [] rfl)) rfl rfl hl.1 rfl (lv_room (Nat.le_of_ble_eq_true rfl)) dL_addRule_61 ⟨(by show 1 + 0 ≤ 15; omega), (by show 11 + 0 ≤ 105; omega)⟩) hS hA hP hD [] rfl (fun _ _ h => by rcases h with ⟨-, rfl⟩; rfl) (fun rr u H locs hw hP hD hS => ?_)
      obtain ⟨rfl, rfl⟩ := hw
      have hP : va_P D vwCl ((wA ty X (nI n) (nI r) tn en pl rf hn kn on cu pu gw an ch cg fb mh ml ih lb ic nn kp) ++ [(z, .inl (ty 0, 11, .inl (upd (fun _ => 0) (0 : Int32).toNatClampNeg 99)))]) H := hP
      have hD : va_D A ((wA ty X (nI n) (nI r) tn en pl rf hn kn on cu pu gw an ch cg fb mh ml ih lb ic nn kp) ++ [(z, .inl (ty 0, 11, .inl (upd (fun _ => 0) (0 : Int32).toNatClampNeg 99)))]) := hD
      refine W.widen (k := 1) (n := 11) (by omega) (by omega) ?_
      refine lv_goto (tgt := 78) hx hb dL_addRule_64 (by decide) ?_
      refine va_iast (D := D) hx hb hK hP hD hS 7 0 rfl rfl (wi_in (by decide) (by decide)) dL_addRule_78 (fun H locs hP hD hS => ?_)
      have hP : va_P D vwCl ((wA ty X (nI n) (nI r) tn en pl rf hn kn on cu pu gw an ch cg fb mh ml ih lb ic nn kp) ++ [(z, .inl (ty 0, 11, .inl (upd (upd (fun _ => 0) (0 : Int32).toNatClampNeg 99) (2 : Int32).toNatClampNeg (nI w1))))]) H := hP
      have hD : va_D A ((wA ty X (nI n) (nI r) tn en pl rf hn kn on cu pu gw an ch cg fb mh ml ih lb ic nn kp) ++ [(z, .inl (ty 0, 11, .inl (upd (upd (fun _ => 0) (0 : Int32).toNatClampNeg 99) (2 : Int32).toNatClampNeg (nI w1))))]) := hD
      refine lv_aload hx hb dL_addRule_79 (lv_at hl 1 rfl) ?_
      refine lv_iconst (v := 3) hx hb dL_addRule_81 (by decide) ?_
      refine lv_aload hx hb dL_addRule_82 (lv_at hl 1 rfl) ?_
      refine lv_iconst (v := 0) hx hb dL_addRule_84 (by decide) ?_
      refine va_iald (D := D) hx hb hK hP 7 0 rfl rfl (wi_in (by decide) (by decide)) dL_addRule_85 ?_
      refine lv_topi (nm_r (e' := 99) (by first | rfl | decide) ?_)
      refine lv_bipush (v := 99) hx hb dL_addRule_86 (by decide) ?_
      refine lv_icmp_ne (tgt := 107) hx hb dL_addRule_88 (by decide) (fun c0 => (c0 rfl).elim) (fun _ => ?_)
      refine lv_aload hx hb dL_addRule_91 (lv_at hl 1 rfl) ?_
      refine lv_iconst (v := 2) hx hb dL_addRule_93 (by decide) ?_
      refine va_iald (D := D) hx hb hK hP 7 0 rfl rfl (wi_in (by decide) (by decide)) dL_addRule_94 ?_
      refine lv_topi (nm_r (e' := (nI w1)) (by first | rfl | decide) ?_)
      refine lv_aload_n hx hb dL_addRule_95 rfl (lv_at hl 3 rfl) ?_
      refine lv_iload_n hx hb dL_addRule_96 rfl (lv_at hl 4 rfl) ?_
      refine lv_iconst (v := 2) hx hb dL_addRule_97 (by decide) ?_
      refine lv_iadd hx hb dL_addRule_98 ?_
      refine lv_topi (nm_r (e' := nI (i + 2)) (nI_add i 2) ?_)
      refine lv_iconst (v := 3) hx hb dL_addRule_99 (by decide) ?_
      obtain ⟨w2, h_w2, e_w2⟩ := pick_lt L xs (nI (i + 2)) (m := 3) (by decide) (by decide)
      refine wq_iQW (ws := (wA ty X (nI n) (nI r) tn en pl rf hn kn on cu pu gw an ch cg fb mh ml ih lb ic nn kp)) (pl := [(z, .inl (ty 0, 11, .inl (upd (upd (fun _ => 0) (0 : Int32).toNatClampNeg 99) (2 : Int32).toNatClampNeg (nI w1))))]) (wc := []) (va_runS (As := [.ref b, .int (nI (i + 2)), .int (nI 3)]) (rest := [.int (nI w1), .int 3, .ref z]) ⟨hx, hb, hml, hown, hts⟩ (k_L_pick l D ty td mi H.size L xs b (nI (i + 2)) (nI 3) (kI_nn (by omega)) (by decide) hL (nI w2) e_w2.symm) (va_cwS 3 hts gv_k_L_addRule_L_pick rfl rfl rfl (by decide +kernel) ⟨(Nat.le_of_ble_eq_true rfl), (Nat.le_of_ble_eq_true rfl)⟩) (wq_preSS (wm_preS (vP_left hP) (vD_left hD) hK hE hS hA [] rfl) hX hbl hbA hS (wm_free (vD_left hD) hS hA [] rfl)) rfl rfl hl.1 rfl (lv_room (Nat.le_of_ble_eq_true rfl)) dL_addRule_100 ⟨(by show 1 + 0 ≤ 15; omega), (by show 11 + 0 ≤ 105; omega)⟩) hS hA hP hD [] rfl (fun _ _ h => by rcases h with ⟨-, rfl⟩; rfl) (fun rr u H locs hw hP hD hS => ?_)
      obtain ⟨rfl, rfl⟩ := hw
      have hP : va_P D vwCl ((wA ty X (nI n) (nI r) tn en pl rf hn kn on cu pu gw an ch cg fb mh ml ih lb ic nn kp) ++ [(z, .inl (ty 0, 11, .inl (upd (upd (fun _ => 0) (0 : Int32).toNatClampNeg 99) (2 : Int32).toNatClampNeg (nI w1))))]) H := hP
      have hD : va_D A ((wA ty X (nI n) (nI r) tn en pl rf hn kn on cu pu gw an ch cg fb mh ml ih lb ic nn kp) ++ [(z, .inl (ty 0, 11, .inl (upd (upd (fun _ => 0) (0 : Int32).toNatClampNeg 99) (2 : Int32).toNatClampNeg (nI w1))))]) := hD
      refine W.widen (k := 1) (n := 11) (by omega) (by omega) ?_
      refine lv_iadd hx hb dL_addRule_103 ?_
      refine lv_topi (nm_r (e' := nI (w1 + w2)) (nI_add w1 w2) ?_)
      refine lv_goto (tgt := 117) hx hb dL_addRule_104 (by decide) ?_
      refine va_iast (D := D) hx hb hK hP hD hS 7 0 rfl rfl (wi_in (by decide) (by decide)) dL_addRule_117 (fun H locs hP hD hS => ?_)
      have hP : va_P D vwCl ((wA ty X (nI n) (nI r) tn en pl rf hn kn on cu pu gw an ch cg fb mh ml ih lb ic nn kp) ++ [(z, .inl (ty 0, 11, .inl (upd (upd (upd (fun _ => 0) (0 : Int32).toNatClampNeg 99) (2 : Int32).toNatClampNeg (nI w1)) (3 : Int32).toNatClampNeg (nI (w1 + w2)))))]) H := hP
      have hD : va_D A ((wA ty X (nI n) (nI r) tn en pl rf hn kn on cu pu gw an ch cg fb mh ml ih lb ic nn kp) ++ [(z, .inl (ty 0, 11, .inl (upd (upd (upd (fun _ => 0) (0 : Int32).toNatClampNeg 99) (2 : Int32).toNatClampNeg (nI w1)) (3 : Int32).toNatClampNeg (nI (w1 + w2)))))]) := hD
      refine lv_aload hx hb dL_addRule_118 (lv_at hl 1 rfl) ?_
      refine lv_iconst (v := 0) hx hb dL_addRule_120 (by decide) ?_
      refine va_iald (D := D) hx hb hK hP 7 0 rfl rfl (wi_in (by decide) (by decide)) dL_addRule_121 ?_
      refine lv_topi (nm_r (e' := 99) (by first | rfl | decide) ?_)
      refine lv_bipush (v := 100) hx hb dL_addRule_122 (by decide) ?_
      refine lv_icmp_ne (tgt := 140) hx hb dL_addRule_124 (by decide) (fun _ => ?_) (fun c0 => ((absurd c0 (by decide) : False)).elim)
      refine lv_aload hx hb dL_addRule_140 (lv_at hl 1 rfl) ?_
      refine lv_iconst (v := 0) hx hb dL_addRule_142 (by decide) ?_
      refine va_iald (D := D) hx hb hK hP 7 0 rfl rfl (wi_in (by decide) (by decide)) dL_addRule_143 ?_
      refine lv_topi (nm_r (e' := 99) (by first | rfl | decide) ?_)
      refine lv_bipush (v := 99) hx hb dL_addRule_144 (by decide) ?_
      refine lv_icmp_ne (tgt := 168) hx hb dL_addRule_146 (by decide) (fun c0 => (c0 rfl).elim) (fun _ => ?_)
      refine lv_aload_n hx hb dL_addRule_149 rfl (lv_at hl 2 rfl) ?_
      refine lv_iconst (v := 2) hx hb dL_addRule_150 (by decide) ?_
      refine lv_iconst (v := 0) hx hb dL_addRule_151 (by decide) ?_
      refine lv_aload hx hb dL_addRule_152 (lv_at hl 1 rfl) ?_
      refine lv_iconst (v := 2) hx hb dL_addRule_154 (by decide) ?_
      refine va_iald (D := D) hx hb hK hP 7 0 rfl rfl (wi_in (by decide) (by decide)) dL_addRule_155 ?_
      refine lv_topi (nm_r (e' := (nI w1)) (by first | rfl | decide) ?_)
      refine lv_aload hx hb dL_addRule_156 (lv_at hl 1 rfl) ?_
      refine lv_iconst (v := 3) hx hb dL_addRule_158 (by decide) ?_
      refine va_iald (D := D) hx hb hK hP 7 0 rfl rfl (wi_in (by decide) (by decide)) dL_addRule_159 ?_
      refine lv_topi (nm_r (e' := (nI (w1 + w2))) (by first | rfl | decide) ?_)
      refine lv_iconst (v := (-1)) hx hb dL_addRule_160 (by decide) ?_
      refine lv_iconst (v := 0) hx hb dL_addRule_161 (by decide) ?_
      refine wq_xiW (wc := (wW_k_L_deed_2 ty X (nI n) (nI r) tn en pl rf hn kn on cu pu gw an ch cg fb mh ml ih lb ic nn kp)) (vx_runSX (As := [.ref (X 0), .int 2, .int 0, .int (nI w1), .int (nI (w1 + w2)), .int (-1), .int 0]) (rest := []) ⟨hx, hb, hml, hown, hts⟩ (k_L_deed_2 l hl9 D ty td mi H.size X (nI n) (nI r) tn en pl rf hn kn on cu pu gw an ch cg fb mh ml ih lb ic nn kp 0 (nI w1) (nI (w1 + w2)) (-1) 0 (2, nI r, 99, 0, 0, (nI w1), (nI (w1 + w2)), (-1), 0, 0, 0, nI (r + 1), 0, 0, 0) ((e_deed2 hr20 (nI n) pl cu ic kp (lo := (nI w1)) (up := (nI (w1 + w2))) (kI_n0 (by omega)) (fun g => by rw [kI_lt (by omega) (by omega)] at g; omega) (show nI (w1 + w2) ≤ nI 9 from (kI_le (by omega) (by omega)).mpr (by omega))).symm)) (vx_cwSW 7 hts gv_k_L_addRule_L_deed_2 rfl rfl rfl (by decide +kernel) ⟨(Nat.le_of_ble_eq_true rfl), (Nat.le_of_ble_eq_true rfl)⟩) (wm_preS hP hD hK hE hS hA [true, true, true, true, true, true, true] rfl) rfl rfl hl.1 rfl (lv_room (Nat.le_of_ble_eq_true rfl)) dL_addRule_162 ⟨(by show 1 + 5 ≤ 15; omega), (by show 11 + 30 ≤ 105; omega)⟩) hS hA hP hD [true, true, true, true, true, true, true] rfl (fun _ _ h => by rcases h with ⟨-, -, rfl⟩ | ⟨_, _, _, -, -, rfl⟩ | ⟨_, _, _, -, -, rfl⟩ <;> rfl) (fun _ _ h => h.elim) (fun E9 u H locs q9 ce hw hP hD hS hce hcv hcl => hw.elim) (fun rr u H locs hw hP hD hS => ?_)
      rcases hw with ⟨c0, -, -⟩ | ⟨_, _, _, c0, -, -⟩ | ⟨y0, y1, y2, -, rfl, rfl⟩
      · exact absurd (show (2 : Int32) = 0 from c0) (by decide)
      · exact absurd (show (2 : Int32) = 1 from c0) (by decide)
      have hP : va_P D vwCl ((wA ty X (nI n) (nI (r + 1)) tn en pl (va_up rf (nI r).toNatClampNeg (some y0)) hn kn on 0 pu gw an ch cg fb mh ml ih lb 0 nn 0) ++ [(z, .inl (ty 0, 11, .inl (upd (upd (upd (fun _ => 0) (0 : Int32).toNatClampNeg 99) (2 : Int32).toNatClampNeg (nI w1)) (3 : Int32).toNatClampNeg (nI (w1 + w2))))), (y0, .inr (10, [.int 99, .int 0, .int (nI w1), .int (nI (w1 + w2)), .int (-1), .int 0, .int 0, .ref y1, .int 0, .ref y2, .int 0])), (y1, .inl (ty 5, 2, .inr (.inr (.inr (.inr (fun _ => none)))))), (y2, .inl (ty 5, 5, .inr (.inr (.inr (.inr (fun _ => none))))))]) H := hP
      have hD : va_D A ((wA ty X (nI n) (nI (r + 1)) tn en pl (va_up rf (nI r).toNatClampNeg (some y0)) hn kn on 0 pu gw an ch cg fb mh ml ih lb 0 nn 0) ++ [(z, .inl (ty 0, 11, .inl (upd (upd (upd (fun _ => 0) (0 : Int32).toNatClampNeg 99) (2 : Int32).toNatClampNeg (nI w1)) (3 : Int32).toNatClampNeg (nI (w1 + w2))))), (y0, .inr (10, [.int 99, .int 0, .int (nI w1), .int (nI (w1 + w2)), .int (-1), .int 0, .int 0, .ref y1, .int 0, .ref y2, .int 0])), (y1, .inl (ty 5, 2, .inr (.inr (.inr (.inr (fun _ => none)))))), (y2, .inl (ty 5, 5, .inr (.inr (.inr (.inr (fun _ => none))))))]) := hD
      refine W.widen (k := 6) (n := 41) (by omega) (by omega) ?_
      refine lv_goto (tgt := 184) hx hb dL_addRule_165 (by decide) ?_
      refine W.widen (k := 7) (n := 47) (by omega) (by omega) ?_
      refine lv_istore (lv' := [(7, .int (nI r)), (6, .int (nI w0)), (5, .ref z), (0, .ref (X 0)), (1, .ref b), (2, .int (nI i)), (3, .int (nI n)), (4, .int (nI r))]) hx hb dL_addRule_184 hl (by decide) rfl (fun ls hl => ?_)
      refine lv_iload hx hb dL_addRule_186 (lv_at hl 0 rfl) ?_
      refine lv_iload hx hb dL_addRule_188 (lv_at hl 7 rfl) ?_
      refine lv_icmp_ne (tgt := 197) hx hb dL_addRule_190 (by decide) (fun c0 => (c0 rfl).elim) (fun _ => ?_)
      have hP : va_P D vwCl (((wA ty X (nI n) (nI (r + 1)) tn en pl (va_up rf (nI r).toNatClampNeg (some y0)) hn kn on 0 pu gw an ch cg fb mh ml ih lb 0 nn 0) ++ [(z, .inl (ty 0, 11, .inl (upd (upd (upd (fun _ => 0) (0 : Int32).toNatClampNeg 99) (2 : Int32).toNatClampNeg (nI w1)) (3 : Int32).toNatClampNeg (nI (w1 + w2))))), (y0, .inr (10, [.int 99, .int 0, .int (nI w1), .int (nI (w1 + w2)), .int (-1), .int 0, .int 0, .ref y1, .int 0, .ref y2, .int 0])), (y1, .inl (ty 5, 2, .inr (.inr (.inr (.inr (fun _ => none)))))), (y2, .inl (ty 5, 5, .inr (.inr (.inr (.inr (fun _ => none))))))]) ++ []) H := hP
      have hD : va_D A (((wA ty X (nI n) (nI (r + 1)) tn en pl (va_up rf (nI r).toNatClampNeg (some y0)) hn kn on 0 pu gw an ch cg fb mh ml ih lb 0 nn 0) ++ [(z, .inl (ty 0, 11, .inl (upd (upd (upd (fun _ => 0) (0 : Int32).toNatClampNeg 99) (2 : Int32).toNatClampNeg (nI w1)) (3 : Int32).toNatClampNeg (nI (w1 + w2))))), (y0, .inr (10, [.int 99, .int 0, .int (nI w1), .int (nI (w1 + w2)), .int (-1), .int 0, .int 0, .ref y1, .int 0, .ref y2, .int 0])), (y1, .inl (ty 5, 2, .inr (.inr (.inr (.inr (fun _ => none)))))), (y2, .inl (ty 5, 5, .inr (.inr (.inr (.inr (fun _ => none))))))]) ++ []) := hD
      refine lv_iconst (v := 1) hx hb dL_addRule_193 (by decide) ?_
      refine lv_goto (tgt := 198) hx hb dL_addRule_194 (by decide) ?_
      refine lv_istore (lv' := [(8, .int 1), (7, .int (nI r)), (6, .int (nI w0)), (5, .ref z), (0, .ref (X 0)), (1, .ref b), (2, .int (nI i)), (3, .int (nI n)), (4, .int (nI r))]) hx hb dL_addRule_198 hl (by decide) rfl (fun ls hl => ?_)
      refine lv_aload hx hb dL_addRule_200 (lv_at hl 3 rfl) ?_
      refine lv_iconst (v := 0) hx hb dL_addRule_202 (by decide) ?_
      refine va_iald (D := D) hx hb hK hP 7 0 rfl rfl (wi_in (by decide) (by decide)) dL_addRule_203 ?_
      refine lv_topi (nm_r (e' := 99) (by first | rfl | decide) ?_)
      refine lv_bipush (v := 119) hx hb dL_addRule_204 (by decide) ?_
      refine lv_icmp_ne (tgt := 213) hx hb dL_addRule_206 (by decide) (fun _ => ?_) (fun c0 => ((absurd c0 (by decide) : False)).elim)
      refine lv_aload_n hx hb dL_addRule_213 rfl (lv_at hl 5 rfl) ?_
      refine lv_iload_n hx hb dL_addRule_214 rfl (lv_at hl 6 rfl) ?_
      refine lv_iconst (v := 3) hx hb dL_addRule_215 (by decide) ?_
      refine lv_iadd hx hb dL_addRule_216 ?_
      refine lv_topi (nm_r (e' := nI (i + 3)) (nI_add i 3) ?_)
      refine lv_bipush (v := 8) hx hb dL_addRule_217 (by decide) ?_
      obtain ⟨w5, h_w5, e_w5⟩ := pick_lt L xs (nI (i + 3)) (m := 8) (by decide) (by decide)
      refine wq_iQW (ws := ((wA ty X (nI n) (nI (r + 1)) tn en pl (va_up rf (nI r).toNatClampNeg (some y0)) hn kn on 0 pu gw an ch cg fb mh ml ih lb 0 nn 0) ++ [(z, .inl (ty 0, 11, .inl (upd (upd (upd (fun _ => 0) (0 : Int32).toNatClampNeg 99) (2 : Int32).toNatClampNeg (nI w1)) (3 : Int32).toNatClampNeg (nI (w1 + w2))))), (y0, .inr (10, [.int 99, .int 0, .int (nI w1), .int (nI (w1 + w2)), .int (-1), .int 0, .int 0, .ref y1, .int 0, .ref y2, .int 0])), (y1, .inl (ty 5, 2, .inr (.inr (.inr (.inr (fun _ => none)))))), (y2, .inl (ty 5, 5, .inr (.inr (.inr (.inr (fun _ => none))))))])) (pl := []) (wc := []) (va_runS (As := [.ref b, .int (nI (i + 3)), .int (nI 8)]) (rest := []) ⟨hx, hb, hml, hown, hts⟩ (k_L_pick l D ty td mi H.size L xs b (nI (i + 3)) (nI 8) (kI_nn (by omega)) (by decide) hL (nI w5) e_w5.symm) (va_cwS 3 hts gv_k_L_addRule_L_pick rfl rfl rfl (by decide +kernel) ⟨(Nat.le_of_ble_eq_true rfl), (Nat.le_of_ble_eq_true rfl)⟩) (wq_preSS (wm_preS (vP_left hP) (vD_left hD) hK hE hS hA [] rfl) hX hbl hbA hS (wm_free (vD_left hD) hS hA [] rfl)) rfl rfl hl.1 rfl (lv_room (Nat.le_of_ble_eq_true rfl)) dL_addRule_219 ⟨(by show 7 + 0 ≤ 15; omega), (by show 47 + 0 ≤ 105; omega)⟩) hS hA hP hD [] rfl (fun _ _ h => by rcases h with ⟨-, rfl⟩; rfl) (fun rr u H locs hw hP hD hS => ?_)
      obtain ⟨rfl, rfl⟩ := hw
      have hP : va_P D vwCl (((wA ty X (nI n) (nI (r + 1)) tn en pl (va_up rf (nI r).toNatClampNeg (some y0)) hn kn on 0 pu gw an ch cg fb mh ml ih lb 0 nn 0) ++ [(z, .inl (ty 0, 11, .inl (upd (upd (upd (fun _ => 0) (0 : Int32).toNatClampNeg 99) (2 : Int32).toNatClampNeg (nI w1)) (3 : Int32).toNatClampNeg (nI (w1 + w2))))), (y0, .inr (10, [.int 99, .int 0, .int (nI w1), .int (nI (w1 + w2)), .int (-1), .int 0, .int 0, .ref y1, .int 0, .ref y2, .int 0])), (y1, .inl (ty 5, 2, .inr (.inr (.inr (.inr (fun _ => none)))))), (y2, .inl (ty 5, 5, .inr (.inr (.inr (.inr (fun _ => none))))))]) ++ []) H := hP
      have hD : va_D A (((wA ty X (nI n) (nI (r + 1)) tn en pl (va_up rf (nI r).toNatClampNeg (some y0)) hn kn on 0 pu gw an ch cg fb mh ml ih lb 0 nn 0) ++ [(z, .inl (ty 0, 11, .inl (upd (upd (upd (fun _ => 0) (0 : Int32).toNatClampNeg 99) (2 : Int32).toNatClampNeg (nI w1)) (3 : Int32).toNatClampNeg (nI (w1 + w2))))), (y0, .inr (10, [.int 99, .int 0, .int (nI w1), .int (nI (w1 + w2)), .int (-1), .int 0, .int 0, .ref y1, .int 0, .ref y2, .int 0])), (y1, .inl (ty 5, 2, .inr (.inr (.inr (.inr (fun _ => none)))))), (y2, .inl (ty 5, 5, .inr (.inr (.inr (.inr (fun _ => none))))))]) ++ []) := hD
      refine W.widen (k := 7) (n := 47) (by omega) (by omega) ?_
      by_cases d8 : w5 = 0
      · refine lv_if_ne (tgt := 229) hx hb dL_addRule_222 (by decide) (fun c0 => (c0 (by rw [d8]; rfl)).elim) (fun _ => ?_)
        refine lv_iconst (v := 0) hx hb dL_addRule_225 (by decide) ?_
        refine lv_goto (tgt := 239) hx hb dL_addRule_226 (by decide) ?_
        refine lv_istore (lv' := [(9, .int 0), (8, .int 1), (7, .int (nI r)), (6, .int (nI w0)), (5, .ref z), (0, .ref (X 0)), (1, .ref b), (2, .int (nI i)), (3, .int (nI n)), (4, .int (nI r))]) hx hb dL_addRule_239 hl (by decide) rfl (fun ls hl => ?_)
        refine lv_iconst (v := 0) hx hb dL_addRule_241 (by decide) ?_
        refine lv_istore (lv' := [(10, .int 0), (9, .int 0), (8, .int 1), (7, .int (nI r)), (6, .int (nI w0)), (5, .ref z), (0, .ref (X 0)), (1, .ref b), (2, .int (nI i)), (3, .int (nI n)), (4, .int (nI r))]) hx hb dL_addRule_242 hl (by decide) rfl (fun ls hl => ?_)
        have hl : lv_has ls 14 [(0, .ref (X 0)), (1, .ref b), (2, .int (nI i)), (3, .int (nI n)), (4, .int (nI r)), (5, .ref z), (8, .int 1), (9, .int 0), (10, .int 0)] := lv_sub hl [6, 7, 8, 9, 10, 5, 2, 1, 0] rfl
        exact L1 (0) z y0 y1 y2 99 (nI w1) (nI (w1 + w2)) 0 0 [] (upd (upd (upd (fun _ => 0) (0 : Int32).toNatClampNeg 99) (2 : Int32).toNatClampNeg (nI w1)) (3 : Int32).toNatClampNeg (nI (w1 + w2))) (0) (Nat.zero_add _) (by omega) (fun _ => by decide) (rwF_init (Or.inr (Or.inl rfl)) (w2b w1 h_w1) (w3b (w1 + w2) (by omega)) (fun e9 => ⟨rfl, rfl⟩) (fun e9 => absurd e9 (by decide))) H locs ls hP hD hS hl
      · refine lv_if_ne (tgt := 229) hx hb dL_addRule_222 (by decide) (fun _ => ?_) (fun c0 => (d8 ((kI_eq (a := w5) (b := 0) (by omega) (by omega)).mp c0)).elim)
        refine lv_iconst (v := 1) hx hb dL_addRule_229 (by decide) ?_
        refine lv_aload_n hx hb dL_addRule_230 rfl (lv_at hl 5 rfl) ?_
        refine lv_iload_n hx hb dL_addRule_231 rfl (lv_at hl 6 rfl) ?_
        refine lv_iconst (v := 4) hx hb dL_addRule_232 (by decide) ?_
        refine lv_iadd hx hb dL_addRule_233 ?_
        refine lv_topi (nm_r (e' := nI (i + 4)) (nI_add i 4) ?_)
        refine lv_iconst (v := 2) hx hb dL_addRule_234 (by decide) ?_
        obtain ⟨w6, h_w6, e_w6⟩ := pick_lt L xs (nI (i + 4)) (m := 2) (by decide) (by decide)
        refine wq_iQW (ws := ((wA ty X (nI n) (nI (r + 1)) tn en pl (va_up rf (nI r).toNatClampNeg (some y0)) hn kn on 0 pu gw an ch cg fb mh ml ih lb 0 nn 0) ++ [(z, .inl (ty 0, 11, .inl (upd (upd (upd (fun _ => 0) (0 : Int32).toNatClampNeg 99) (2 : Int32).toNatClampNeg (nI w1)) (3 : Int32).toNatClampNeg (nI (w1 + w2))))), (y0, .inr (10, [.int 99, .int 0, .int (nI w1), .int (nI (w1 + w2)), .int (-1), .int 0, .int 0, .ref y1, .int 0, .ref y2, .int 0])), (y1, .inl (ty 5, 2, .inr (.inr (.inr (.inr (fun _ => none)))))), (y2, .inl (ty 5, 5, .inr (.inr (.inr (.inr (fun _ => none))))))])) (pl := []) (wc := []) (va_runS (As := [.ref b, .int (nI (i + 4)), .int (nI 2)]) (rest := [.int 1]) ⟨hx, hb, hml, hown, hts⟩ (k_L_pick l D ty td mi H.size L xs b (nI (i + 4)) (nI 2) (kI_nn (by omega)) (by decide) hL (nI w6) e_w6.symm) (va_cwS 3 hts gv_k_L_addRule_L_pick rfl rfl rfl (by decide +kernel) ⟨(Nat.le_of_ble_eq_true rfl), (Nat.le_of_ble_eq_true rfl)⟩) (wq_preSS (wm_preS (vP_left hP) (vD_left hD) hK hE hS hA [] rfl) hX hbl hbA hS (wm_free (vD_left hD) hS hA [] rfl)) rfl rfl hl.1 rfl (lv_room (Nat.le_of_ble_eq_true rfl)) dL_addRule_235 ⟨(by show 7 + 0 ≤ 15; omega), (by show 47 + 0 ≤ 105; omega)⟩) hS hA hP hD [] rfl (fun _ _ h => by rcases h with ⟨-, rfl⟩; rfl) (fun rr u H locs hw hP hD hS => ?_)
        obtain ⟨rfl, rfl⟩ := hw
        have hP : va_P D vwCl (((wA ty X (nI n) (nI (r + 1)) tn en pl (va_up rf (nI r).toNatClampNeg (some y0)) hn kn on 0 pu gw an ch cg fb mh ml ih lb 0 nn 0) ++ [(z, .inl (ty 0, 11, .inl (upd (upd (upd (fun _ => 0) (0 : Int32).toNatClampNeg 99) (2 : Int32).toNatClampNeg (nI w1)) (3 : Int32).toNatClampNeg (nI (w1 + w2))))), (y0, .inr (10, [.int 99, .int 0, .int (nI w1), .int (nI (w1 + w2)), .int (-1), .int 0, .int 0, .ref y1, .int 0, .ref y2, .int 0])), (y1, .inl (ty 5, 2, .inr (.inr (.inr (.inr (fun _ => none)))))), (y2, .inl (ty 5, 5, .inr (.inr (.inr (.inr (fun _ => none))))))]) ++ []) H := hP
        have hD : va_D A (((wA ty X (nI n) (nI (r + 1)) tn en pl (va_up rf (nI r).toNatClampNeg (some y0)) hn kn on 0 pu gw an ch cg fb mh ml ih lb 0 nn 0) ++ [(z, .inl (ty 0, 11, .inl (upd (upd (upd (fun _ => 0) (0 : Int32).toNatClampNeg 99) (2 : Int32).toNatClampNeg (nI w1)) (3 : Int32).toNatClampNeg (nI (w1 + w2))))), (y0, .inr (10, [.int 99, .int 0, .int (nI w1), .int (nI (w1 + w2)), .int (-1), .int 0, .int 0, .ref y1, .int 0, .ref y2, .int 0])), (y1, .inl (ty 5, 2, .inr (.inr (.inr (.inr (fun _ => none)))))), (y2, .inl (ty 5, 5, .inr (.inr (.inr (.inr (fun _ => none))))))]) ++ []) := hD
        refine W.widen (k := 7) (n := 47) (by omega) (by omega) ?_
        refine lv_iadd hx hb dL_addRule_238 ?_
        refine lv_topi (nm_r (e' := nI (1 + w6)) (nI_add 1 w6) ?_)
        refine lv_istore (lv' := [(9, .int (nI (1 + w6))), (8, .int 1), (7, .int (nI r)), (6, .int (nI w0)), (5, .ref z), (0, .ref (X 0)), (1, .ref b), (2, .int (nI i)), (3, .int (nI n)), (4, .int (nI r))]) hx hb dL_addRule_239 hl (by decide) rfl (fun ls hl => ?_)
        refine lv_iconst (v := 0) hx hb dL_addRule_241 (by decide) ?_
        refine lv_istore (lv' := [(10, .int 0), (9, .int (nI (1 + w6))), (8, .int 1), (7, .int (nI r)), (6, .int (nI w0)), (5, .ref z), (0, .ref (X 0)), (1, .ref b), (2, .int (nI i)), (3, .int (nI n)), (4, .int (nI r))]) hx hb dL_addRule_242 hl (by decide) rfl (fun ls hl => ?_)
        have hl : lv_has ls 14 [(0, .ref (X 0)), (1, .ref b), (2, .int (nI i)), (3, .int (nI n)), (4, .int (nI r)), (5, .ref z), (8, .int 1), (9, .int (nI (1 + w6))), (10, .int 0)] := lv_sub hl [6, 7, 8, 9, 10, 5, 2, 1, 0] rfl
        exact L1 (1 + w6) z y0 y1 y2 99 (nI w1) (nI (w1 + w2)) 0 0 [] (upd (upd (upd (fun _ => 0) (0 : Int32).toNatClampNeg 99) (2 : Int32).toNatClampNeg (nI w1)) (3 : Int32).toNatClampNeg (nI (w1 + w2))) (1 + w6) (Nat.zero_add _) (by omega) (fun _ => by decide) (rwF_init (Or.inr (Or.inl rfl)) (w2b w1 h_w1) (w3b (w1 + w2) (by omega)) (fun e9 => ⟨rfl, rfl⟩) (fun e9 => absurd e9 (by decide))) H locs ls hP hD hS hl
    · refine lv_icmp_ge (tgt := 29) hx hb dL_addRule_21 (by decide) (fun _ => ?_) (fun c0 => (c0 ((kI_le (a := 4) (b := w0) (by omega) (by omega)).mpr (by omega))).elim)
      refine lv_iload hx hb dL_addRule_29 (lv_at hl 0 rfl) ?_
      refine lv_bipush (v := 6) hx hb dL_addRule_31 (by decide) ?_
      refine lv_icmp_ge (tgt := 41) hx hb dL_addRule_33 (by decide) (fun _ => ?_) (fun c0 => (c0 ((kI_le (a := 6) (b := w0) (by omega) (by omega)).mpr (by omega))).elim)
      refine lv_bipush (v := 119) hx hb dL_addRule_41 (by decide) ?_
      refine va_iast (D := D) hx hb hK hP hD hS 7 0 rfl rfl (wi_in (by decide) (by decide)) dL_addRule_43 (fun H locs hP hD hS => ?_)
      have hP : va_P D vwCl ((wA ty X (nI n) (nI r) tn en pl rf hn kn on cu pu gw an ch cg fb mh ml ih lb ic nn kp) ++ [(z, .inl (ty 0, 11, .inl (upd (fun _ => 0) (0 : Int32).toNatClampNeg 119)))]) H := hP
      have hD : va_D A ((wA ty X (nI n) (nI r) tn en pl rf hn kn on cu pu gw an ch cg fb mh ml ih lb ic nn kp) ++ [(z, .inl (ty 0, 11, .inl (upd (fun _ => 0) (0 : Int32).toNatClampNeg 119)))]) := hD
      refine lv_aload hx hb dL_addRule_44 (lv_at hl 1 rfl) ?_
      refine lv_iconst (v := 2) hx hb dL_addRule_46 (by decide) ?_
      refine lv_aload hx hb dL_addRule_47 (lv_at hl 1 rfl) ?_
      refine lv_iconst (v := 0) hx hb dL_addRule_49 (by decide) ?_
      refine va_iald (D := D) hx hb hK hP 7 0 rfl rfl (wi_in (by decide) (by decide)) dL_addRule_50 ?_
      refine lv_topi (nm_r (e' := 119) (by first | rfl | decide) ?_)
      refine lv_bipush (v := 99) hx hb dL_addRule_51 (by decide) ?_
      refine lv_icmp_ne (tgt := 67) hx hb dL_addRule_53 (by decide) (fun _ => ?_) (fun c0 => ((absurd c0 (by decide) : False)).elim)
      refine lv_aload_n hx hb dL_addRule_67 rfl (lv_at hl 3 rfl) ?_
      refine lv_iload_n hx hb dL_addRule_68 rfl (lv_at hl 4 rfl) ?_
      refine lv_iconst (v := 1) hx hb dL_addRule_69 (by decide) ?_
      refine lv_iadd hx hb dL_addRule_70 ?_
      refine lv_topi (nm_r (e' := nI (i + 1)) (kI_s i) ?_)
      refine lv_bipush (v := 9) hx hb dL_addRule_71 (by decide) ?_
      obtain ⟨w1, h_w1, e_w1⟩ := pick_lt L xs (nI (i + 1)) (m := 9) (by decide) (by decide)
      refine wq_iQW (ws := (wA ty X (nI n) (nI r) tn en pl rf hn kn on cu pu gw an ch cg fb mh ml ih lb ic nn kp)) (pl := [(z, .inl (ty 0, 11, .inl (upd (fun _ => 0) (0 : Int32).toNatClampNeg 119)))]) (wc := []) (va_runS (As := [.ref b, .int (nI (i + 1)), .int (nI 9)]) (rest := [.int 2, .ref z]) ⟨hx, hb, hml, hown, hts⟩ (k_L_pick l D ty td mi H.size L xs b (nI (i + 1)) (nI 9) (kI_nn (by omega)) (by decide) hL (nI w1) e_w1.symm) (va_cwS 3 hts gv_k_L_addRule_L_pick rfl rfl rfl (by decide +kernel) ⟨(Nat.le_of_ble_eq_true rfl), (Nat.le_of_ble_eq_true rfl)⟩) (wq_preSS (wm_preS (vP_left hP) (vD_left hD) hK hE hS hA [] rfl) hX hbl hbA hS (wm_free (vD_left hD) hS hA [] rfl)) rfl rfl hl.1 rfl (lv_room (Nat.le_of_ble_eq_true rfl)) dL_addRule_73 ⟨(by show 1 + 0 ≤ 15; omega), (by show 11 + 0 ≤ 105; omega)⟩) hS hA hP hD [] rfl (fun _ _ h => by rcases h with ⟨-, rfl⟩; rfl) (fun rr u H locs hw hP hD hS => ?_)
      obtain ⟨rfl, rfl⟩ := hw
      have hP : va_P D vwCl ((wA ty X (nI n) (nI r) tn en pl rf hn kn on cu pu gw an ch cg fb mh ml ih lb ic nn kp) ++ [(z, .inl (ty 0, 11, .inl (upd (fun _ => 0) (0 : Int32).toNatClampNeg 119)))]) H := hP
      have hD : va_D A ((wA ty X (nI n) (nI r) tn en pl rf hn kn on cu pu gw an ch cg fb mh ml ih lb ic nn kp) ++ [(z, .inl (ty 0, 11, .inl (upd (fun _ => 0) (0 : Int32).toNatClampNeg 119)))]) := hD
      refine W.widen (k := 1) (n := 11) (by omega) (by omega) ?_
      refine lv_iconst (v := 4) hx hb dL_addRule_76 (by decide) ?_
      refine lv_isub hx hb dL_addRule_77 ?_
      refine va_iast (D := D) hx hb hK hP hD hS 7 0 rfl rfl (wi_in (by decide) (by decide)) dL_addRule_78 (fun H locs hP hD hS => ?_)
      have hP : va_P D vwCl ((wA ty X (nI n) (nI r) tn en pl rf hn kn on cu pu gw an ch cg fb mh ml ih lb ic nn kp) ++ [(z, .inl (ty 0, 11, .inl (upd (upd (fun _ => 0) (0 : Int32).toNatClampNeg 119) (2 : Int32).toNatClampNeg (nI w1 - 4))))]) H := hP
      have hD : va_D A ((wA ty X (nI n) (nI r) tn en pl rf hn kn on cu pu gw an ch cg fb mh ml ih lb ic nn kp) ++ [(z, .inl (ty 0, 11, .inl (upd (upd (fun _ => 0) (0 : Int32).toNatClampNeg 119) (2 : Int32).toNatClampNeg (nI w1 - 4))))]) := hD
      refine lv_aload hx hb dL_addRule_79 (lv_at hl 1 rfl) ?_
      refine lv_iconst (v := 3) hx hb dL_addRule_81 (by decide) ?_
      refine lv_aload hx hb dL_addRule_82 (lv_at hl 1 rfl) ?_
      refine lv_iconst (v := 0) hx hb dL_addRule_84 (by decide) ?_
      refine va_iald (D := D) hx hb hK hP 7 0 rfl rfl (wi_in (by decide) (by decide)) dL_addRule_85 ?_
      refine lv_topi (nm_r (e' := 119) (by first | rfl | decide) ?_)
      refine lv_bipush (v := 99) hx hb dL_addRule_86 (by decide) ?_
      refine lv_icmp_ne (tgt := 107) hx hb dL_addRule_88 (by decide) (fun _ => ?_) (fun c0 => ((absurd c0 (by decide) : False)).elim)
      refine lv_iconst (v := 1) hx hb dL_addRule_107 (by decide) ?_
      refine lv_aload_n hx hb dL_addRule_108 rfl (lv_at hl 3 rfl) ?_
      refine lv_iload_n hx hb dL_addRule_109 rfl (lv_at hl 4 rfl) ?_
      refine lv_iconst (v := 2) hx hb dL_addRule_110 (by decide) ?_
      refine lv_iadd hx hb dL_addRule_111 ?_
      refine lv_topi (nm_r (e' := nI (i + 2)) (nI_add i 2) ?_)
      refine lv_iconst (v := 3) hx hb dL_addRule_112 (by decide) ?_
      obtain ⟨w2, h_w2, e_w2⟩ := pick_lt L xs (nI (i + 2)) (m := 3) (by decide) (by decide)
      refine wq_iQW (ws := (wA ty X (nI n) (nI r) tn en pl rf hn kn on cu pu gw an ch cg fb mh ml ih lb ic nn kp)) (pl := [(z, .inl (ty 0, 11, .inl (upd (upd (fun _ => 0) (0 : Int32).toNatClampNeg 119) (2 : Int32).toNatClampNeg (nI w1 - 4))))]) (wc := []) (va_runS (As := [.ref b, .int (nI (i + 2)), .int (nI 3)]) (rest := [.int 1, .int 3, .ref z]) ⟨hx, hb, hml, hown, hts⟩ (k_L_pick l D ty td mi H.size L xs b (nI (i + 2)) (nI 3) (kI_nn (by omega)) (by decide) hL (nI w2) e_w2.symm) (va_cwS 3 hts gv_k_L_addRule_L_pick rfl rfl rfl (by decide +kernel) ⟨(Nat.le_of_ble_eq_true rfl), (Nat.le_of_ble_eq_true rfl)⟩) (wq_preSS (wm_preS (vP_left hP) (vD_left hD) hK hE hS hA [] rfl) hX hbl hbA hS (wm_free (vD_left hD) hS hA [] rfl)) rfl rfl hl.1 rfl (lv_room (Nat.le_of_ble_eq_true rfl)) dL_addRule_113 ⟨(by show 1 + 0 ≤ 15; omega), (by show 11 + 0 ≤ 105; omega)⟩) hS hA hP hD [] rfl (fun _ _ h => by rcases h with ⟨-, rfl⟩; rfl) (fun rr u H locs hw hP hD hS => ?_)
      obtain ⟨rfl, rfl⟩ := hw
      have hP : va_P D vwCl ((wA ty X (nI n) (nI r) tn en pl rf hn kn on cu pu gw an ch cg fb mh ml ih lb ic nn kp) ++ [(z, .inl (ty 0, 11, .inl (upd (upd (fun _ => 0) (0 : Int32).toNatClampNeg 119) (2 : Int32).toNatClampNeg (nI w1 - 4))))]) H := hP
      have hD : va_D A ((wA ty X (nI n) (nI r) tn en pl rf hn kn on cu pu gw an ch cg fb mh ml ih lb ic nn kp) ++ [(z, .inl (ty 0, 11, .inl (upd (upd (fun _ => 0) (0 : Int32).toNatClampNeg 119) (2 : Int32).toNatClampNeg (nI w1 - 4))))]) := hD
      refine W.widen (k := 1) (n := 11) (by omega) (by omega) ?_
      refine lv_iadd hx hb dL_addRule_116 ?_
      refine lv_topi (nm_r (e' := nI (1 + w2)) (nI_add 1 w2) ?_)
      refine va_iast (D := D) hx hb hK hP hD hS 7 0 rfl rfl (wi_in (by decide) (by decide)) dL_addRule_117 (fun H locs hP hD hS => ?_)
      have hP : va_P D vwCl ((wA ty X (nI n) (nI r) tn en pl rf hn kn on cu pu gw an ch cg fb mh ml ih lb ic nn kp) ++ [(z, .inl (ty 0, 11, .inl (upd (upd (upd (fun _ => 0) (0 : Int32).toNatClampNeg 119) (2 : Int32).toNatClampNeg (nI w1 - 4)) (3 : Int32).toNatClampNeg (nI (1 + w2)))))]) H := hP
      have hD : va_D A ((wA ty X (nI n) (nI r) tn en pl rf hn kn on cu pu gw an ch cg fb mh ml ih lb ic nn kp) ++ [(z, .inl (ty 0, 11, .inl (upd (upd (upd (fun _ => 0) (0 : Int32).toNatClampNeg 119) (2 : Int32).toNatClampNeg (nI w1 - 4)) (3 : Int32).toNatClampNeg (nI (1 + w2)))))]) := hD
      refine lv_aload hx hb dL_addRule_118 (lv_at hl 1 rfl) ?_
      refine lv_iconst (v := 0) hx hb dL_addRule_120 (by decide) ?_
      refine va_iald (D := D) hx hb hK hP 7 0 rfl rfl (wi_in (by decide) (by decide)) dL_addRule_121 ?_
      refine lv_topi (nm_r (e' := 119) (by first | rfl | decide) ?_)
      refine lv_bipush (v := 100) hx hb dL_addRule_122 (by decide) ?_
      refine lv_icmp_ne (tgt := 140) hx hb dL_addRule_124 (by decide) (fun _ => ?_) (fun c0 => ((absurd c0 (by decide) : False)).elim)
      refine lv_aload hx hb dL_addRule_140 (lv_at hl 1 rfl) ?_
      refine lv_iconst (v := 0) hx hb dL_addRule_142 (by decide) ?_
      refine va_iald (D := D) hx hb hK hP 7 0 rfl rfl (wi_in (by decide) (by decide)) dL_addRule_143 ?_
      refine lv_topi (nm_r (e' := 119) (by first | rfl | decide) ?_)
      refine lv_bipush (v := 99) hx hb dL_addRule_144 (by decide) ?_
      refine lv_icmp_ne (tgt := 168) hx hb dL_addRule_146 (by decide) (fun _ => ?_) (fun c0 => ((absurd c0 (by decide) : False)).elim)
      refine lv_aload_n hx hb dL_addRule_168 rfl (lv_at hl 2 rfl) ?_
      refine lv_iconst (v := 3) hx hb dL_addRule_169 (by decide) ?_
      refine lv_iconst (v := 0) hx hb dL_addRule_170 (by decide) ?_
      refine lv_aload hx hb dL_addRule_171 (lv_at hl 1 rfl) ?_
      refine lv_iconst (v := 2) hx hb dL_addRule_173 (by decide) ?_
      refine va_iald (D := D) hx hb hK hP 7 0 rfl rfl (wi_in (by decide) (by decide)) dL_addRule_174 ?_
      refine lv_topi (nm_r (e' := (nI w1 - 4)) (by first | rfl | decide) ?_)
      refine lv_aload hx hb dL_addRule_175 (lv_at hl 1 rfl) ?_
      refine lv_iconst (v := 3) hx hb dL_addRule_177 (by decide) ?_
      refine va_iald (D := D) hx hb hK hP 7 0 rfl rfl (wi_in (by decide) (by decide)) dL_addRule_178 ?_
      refine lv_topi (nm_r (e' := (nI (1 + w2))) (by first | rfl | decide) ?_)
      refine lv_iconst (v := 0) hx hb dL_addRule_179 (by decide) ?_
      refine lv_iconst (v := 0) hx hb dL_addRule_180 (by decide) ?_
      refine wq_xiW (wc := (wW_k_L_deed_3 ty X (nI n) (nI r) tn en rf hn kn on cu pu gw an ch cg fb mh ml ih lb ic nn kp)) (vx_runSX (As := [.ref (X 0), .int 3, .int 0, .int (nI w1 - 4), .int (nI (1 + w2)), .int 0, .int 0]) (rest := []) ⟨hx, hb, hml, hown, hts⟩ (k_L_deed_3 l hl9 D ty td mi H.size X (nI n) (nI r) tn en rf hn kn on cu pu gw an ch cg fb mh ml ih lb ic nn kp 0 (nI w1 - 4) (nI (1 + w2)) 0 0 (2, nI r, 119, 0, 0, 0, 0, (-1), (nI w1 - 4), (nI (1 + w2)), 0, nI (r + 1), 0, 0, 0) ((e_deed3 hr20 cu ic kp (we := (nI w1 - 4)) (lv := (nI (1 + w2))) (w9 w1 h_w1).1 (w9 w1 h_w1).2.1 (w3 w2 h_w2)).symm)) (vx_cwSW 7 hts gv_k_L_addRule_L_deed_3 rfl rfl rfl (by decide +kernel) ⟨(Nat.le_of_ble_eq_true rfl), (Nat.le_of_ble_eq_true rfl)⟩) (wm_preS hP hD hK hE hS hA [true, true, false, true, true, true, true] rfl) rfl rfl hl.1 rfl (lv_room (Nat.le_of_ble_eq_true rfl)) dL_addRule_181 ⟨(by show 1 + 6 ≤ 15; omega), (by show 11 + 36 ≤ 105; omega)⟩) hS hA hP hD [true, true, false, true, true, true, true] rfl (fun _ _ h => by rcases h with ⟨-, -, rfl⟩ | ⟨_, _, _, -, -, rfl⟩ | ⟨_, _, _, -, -, rfl⟩ <;> rfl) (fun _ _ h => h.elim) (fun E9 u H locs q9 ce hw hP hD hS hce hcv hcl => hw.elim) (fun rr u H locs hw hP hD hS => ?_)
      rcases hw with ⟨c0, -, -⟩ | ⟨_, _, _, c0, -, -⟩ | ⟨y0, y1, y2, -, rfl, rfl⟩
      · exact absurd (show (2 : Int32) = 0 from c0) (by decide)
      · exact absurd (show (2 : Int32) = 1 from c0) (by decide)
      have hP : va_P D vwCl ((wA ty X (nI n) (nI (r + 1)) tn en pl (va_up rf (nI r).toNatClampNeg (some y0)) hn kn on 0 pu gw an ch cg fb mh ml ih lb 0 nn 0) ++ [(z, .inl (ty 0, 11, .inl (upd (upd (upd (fun _ => 0) (0 : Int32).toNatClampNeg 119) (2 : Int32).toNatClampNeg (nI w1 - 4)) (3 : Int32).toNatClampNeg (nI (1 + w2))))), (y0, .inr (10, [.int 119, .int 0, .int 0, .int 0, .int (-1), .int (nI w1 - 4), .int (nI (1 + w2)), .ref y1, .int 0, .ref y2, .int 0])), (y1, .inl (ty 5, 2, .inr (.inr (.inr (.inr (fun _ => none)))))), (y2, .inl (ty 5, 5, .inr (.inr (.inr (.inr (fun _ => none))))))]) H := hP
      have hD : va_D A ((wA ty X (nI n) (nI (r + 1)) tn en pl (va_up rf (nI r).toNatClampNeg (some y0)) hn kn on 0 pu gw an ch cg fb mh ml ih lb 0 nn 0) ++ [(z, .inl (ty 0, 11, .inl (upd (upd (upd (fun _ => 0) (0 : Int32).toNatClampNeg 119) (2 : Int32).toNatClampNeg (nI w1 - 4)) (3 : Int32).toNatClampNeg (nI (1 + w2))))), (y0, .inr (10, [.int 119, .int 0, .int 0, .int 0, .int (-1), .int (nI w1 - 4), .int (nI (1 + w2)), .ref y1, .int 0, .ref y2, .int 0])), (y1, .inl (ty 5, 2, .inr (.inr (.inr (.inr (fun _ => none)))))), (y2, .inl (ty 5, 5, .inr (.inr (.inr (.inr (fun _ => none))))))]) := hD
      refine W.widen (k := 7) (n := 47) (by omega) (by omega) ?_
      refine W.widen (k := 7) (n := 47) (by omega) (by omega) ?_
      refine lv_istore (lv' := [(7, .int (nI r)), (6, .int (nI w0)), (5, .ref z), (0, .ref (X 0)), (1, .ref b), (2, .int (nI i)), (3, .int (nI n)), (4, .int (nI r))]) hx hb dL_addRule_184 hl (by decide) rfl (fun ls hl => ?_)
      refine lv_iload hx hb dL_addRule_186 (lv_at hl 0 rfl) ?_
      refine lv_iload hx hb dL_addRule_188 (lv_at hl 7 rfl) ?_
      refine lv_icmp_ne (tgt := 197) hx hb dL_addRule_190 (by decide) (fun c0 => (c0 rfl).elim) (fun _ => ?_)
      have hP : va_P D vwCl (((wA ty X (nI n) (nI (r + 1)) tn en pl (va_up rf (nI r).toNatClampNeg (some y0)) hn kn on 0 pu gw an ch cg fb mh ml ih lb 0 nn 0) ++ [(z, .inl (ty 0, 11, .inl (upd (upd (upd (fun _ => 0) (0 : Int32).toNatClampNeg 119) (2 : Int32).toNatClampNeg (nI w1 - 4)) (3 : Int32).toNatClampNeg (nI (1 + w2))))), (y0, .inr (10, [.int 119, .int 0, .int 0, .int 0, .int (-1), .int (nI w1 - 4), .int (nI (1 + w2)), .ref y1, .int 0, .ref y2, .int 0])), (y1, .inl (ty 5, 2, .inr (.inr (.inr (.inr (fun _ => none)))))), (y2, .inl (ty 5, 5, .inr (.inr (.inr (.inr (fun _ => none))))))]) ++ []) H := hP
      have hD : va_D A (((wA ty X (nI n) (nI (r + 1)) tn en pl (va_up rf (nI r).toNatClampNeg (some y0)) hn kn on 0 pu gw an ch cg fb mh ml ih lb 0 nn 0) ++ [(z, .inl (ty 0, 11, .inl (upd (upd (upd (fun _ => 0) (0 : Int32).toNatClampNeg 119) (2 : Int32).toNatClampNeg (nI w1 - 4)) (3 : Int32).toNatClampNeg (nI (1 + w2))))), (y0, .inr (10, [.int 119, .int 0, .int 0, .int 0, .int (-1), .int (nI w1 - 4), .int (nI (1 + w2)), .ref y1, .int 0, .ref y2, .int 0])), (y1, .inl (ty 5, 2, .inr (.inr (.inr (.inr (fun _ => none)))))), (y2, .inl (ty 5, 5, .inr (.inr (.inr (.inr (fun _ => none))))))]) ++ []) := hD
      refine lv_iconst (v := 1) hx hb dL_addRule_193 (by decide) ?_
      refine lv_goto (tgt := 198) hx hb dL_addRule_194 (by decide) ?_
      refine lv_istore (lv' := [(8, .int 1), (7, .int (nI r)), (6, .int (nI w0)), (5, .ref z), (0, .ref (X 0)), (1, .ref b), (2, .int (nI i)), (3, .int (nI n)), (4, .int (nI r))]) hx hb dL_addRule_198 hl (by decide) rfl (fun ls hl => ?_)
      refine lv_aload hx hb dL_addRule_200 (lv_at hl 3 rfl) ?_
      refine lv_iconst (v := 0) hx hb dL_addRule_202 (by decide) ?_
      refine va_iald (D := D) hx hb hK hP 7 0 rfl rfl (wi_in (by decide) (by decide)) dL_addRule_203 ?_
      refine lv_topi (nm_r (e' := 119) (by first | rfl | decide) ?_)
      refine lv_bipush (v := 119) hx hb dL_addRule_204 (by decide) ?_
      refine lv_icmp_ne (tgt := 213) hx hb dL_addRule_206 (by decide) (fun c0 => (c0 rfl).elim) (fun _ => ?_)
      refine lv_iconst (v := 0) hx hb dL_addRule_209 (by decide) ?_
      refine lv_goto (tgt := 239) hx hb dL_addRule_210 (by decide) ?_
      refine lv_istore (lv' := [(9, .int 0), (8, .int 1), (7, .int (nI r)), (6, .int (nI w0)), (5, .ref z), (0, .ref (X 0)), (1, .ref b), (2, .int (nI i)), (3, .int (nI n)), (4, .int (nI r))]) hx hb dL_addRule_239 hl (by decide) rfl (fun ls hl => ?_)
      refine lv_iconst (v := 0) hx hb dL_addRule_241 (by decide) ?_
      refine lv_istore (lv' := [(10, .int 0), (9, .int 0), (8, .int 1), (7, .int (nI r)), (6, .int (nI w0)), (5, .ref z), (0, .ref (X 0)), (1, .ref b), (2, .int (nI i)), (3, .int (nI n)), (4, .int (nI r))]) hx hb dL_addRule_242 hl (by decide) rfl (fun ls hl => ?_)
      have hl : lv_has ls 14 [(0, .ref (X 0)), (1, .ref b), (2, .int (nI i)), (3, .int (nI n)), (4, .int (nI r)), (5, .ref z), (8, .int 1), (9, .int 0), (10, .int 0)] := lv_sub hl [6, 7, 8, 9, 10, 5, 2, 1, 0] rfl
      exact L1 (0) z y0 y1 y2 119 0 0 (nI w1 - 4) (nI (1 + w2)) [] (upd (upd (upd (fun _ => 0) (0 : Int32).toNatClampNeg 119) (2 : Int32).toNatClampNeg (nI w1 - 4)) (3 : Int32).toNatClampNeg (nI (1 + w2))) (0) (Nat.zero_add _) (by omega) (fun g => absurd g (Nat.lt_irrefl 0)) (rwF_init (Or.inr (Or.inr rfl)) (w9 w1 h_w1).2.2 (w3b (1 + w2) (by omega)) (fun e9 => absurd e9 (by decide)) (fun e9 => ⟨rfl, rfl⟩)) H locs ls hP hD hS hl
