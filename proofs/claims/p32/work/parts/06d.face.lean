abbrev r_k_X10_walkByAll : Type := Int32 × Int32 × (Nat → Int64) × (Nat → Int64) × (Nat → Int32) × (Nat → Int32) × (Nat → Int32) × (Nat → Int32) × (Nat → Int32) × (Nat → Int32) × Int32 × Int32 × Int32 × Int32 × Int32 × Int32 × Int32 × Int32 × Int32 × Int32 × (Nat → Int32) × (Nat → Int32) × (Nat → Int32) × (Nat → Int32) × (Nat → Int32) × (Nat → Int32) × Int32 × (Nat → Int32) × (Nat → Int32) × (Nat → Int32) × (Nat → Int32) × (Nat → Int32) × (Nat → Int32) × (Nat → Int32) × (Nat → Int32) × (Nat → Int32) × Int32 × Int32 × Int32 × Int32 × Int32 × Int32 × Int32 × Int32 × Int32 × Int32
def m_k_X10_walkByAll_32 (an : Int32) (ch : Int32) (cg : Int32) (fb : Int32) (mh : Int32) (ml : Int32) (ih : Int32) (lb : Int32) (ic : Int32) (cn : Int32) (c1 : Nat → Int32) (c2 : Nat → Int32) (c3 : Nat → Int32) (c4 : Nat → Int32) (c5 : Nat → Int32) (c6 : Nat → Int32) (wn : Int32) (w1 : Nat → Int32) (w2 : Nat → Int32) (w3 : Nat → Int32) (w4 : Nat → Int32) (w5 : Nat → Int32) (w6 : Nat → Int32) (ac : Nat → Int32) (obi : Nat → Int32) (sc : Nat → Int32) (t_4 : r_k_X3_refresh) : r_k_X10_walkByAll :=
  (4, 0, t_4.1, t_4.2.1, t_4.2.2.1, t_4.2.2.2.1, t_4.2.2.2.2.1, t_4.2.2.2.2.2.1, t_4.2.2.2.2.2.2.1, t_4.2.2.2.2.2.2.2.1, cg, fb, mh, ml, ih, lb, ic, an, ch, cn, c1, c2, c3, c4, c5, c6, wn, w1, w2, w3, w4, w5, w6, ac, obi, sc, t_4.2.2.2.2.2.2.2.2.1, t_4.2.2.2.2.2.2.2.2.2.1, t_4.2.2.2.2.2.2.2.2.2.2.1, t_4.2.2.2.2.2.2.2.2.2.2.2.1, t_4.2.2.2.2.2.2.2.2.2.2.2.2.1, t_4.2.2.2.2.2.2.2.2.2.2.2.2.2.1, t_4.2.2.2.2.2.2.2.2.2.2.2.2.2.2.1, t_4.2.2.2.2.2.2.2.2.2.2.2.2.2.2.2.1, t_4.2.2.2.2.2.2.2.2.2.2.2.2.2.2.2.2.1, t_4.2.2.2.2.2.2.2.2.2.2.2.2.2.2.2.2.2)
def m_k_X10_walkByAll (pp : pT) (rn : Int32) (tn : Int32) (en : Int32) (rf : Nat → Option Nat) (tp : Nat → Int32) (tq : Nat → Int32) (ea : Nat → Int32) (es : Nat → Int32) (hn : Int32) (kn : Int32) (on : Int32) (cu : Int32) (pu : Int32) (gw : Int32) (b_1 : Int32) (b_2 : Int32) (b_3 : Int32) (b_p : Int32) (su : Nat → Int64) (po : Nat → Int64) (hds : Nat → Int32) (kr : Nat → Int32) (kv : Nat → Int32) (kb : Nat → Int32) (oa : Nat → Int32) (ob : Nat → Int32) (an : Int32) (ch : Int32) (cg : Int32) (fb : Int32) (mh : Int32) (ml : Int32) (ih : Int32) (lb : Int32) (ic : Int32) (cn : Int32) (c1 : Nat → Int32) (c2 : Nat → Int32) (c3 : Nat → Int32) (c4 : Nat → Int32) (c5 : Nat → Int32) (c6 : Nat → Int32) (wn : Int32) (w1 : Nat → Int32) (w2 : Nat → Int32) (w3 : Nat → Int32) (w4 : Nat → Int32) (w5 : Nat → Int32) (w6 : Nat → Int32) (ac : Nat → Int32) (obi : Nat → Int32) (sc : Nat → Int32) (ai : Nat → Int64) (ao : Nat → Int64) : r_k_X10_walkByAll :=
  lE (m_k_X3_refresh pp rn tn en rf tp tq ea es hn kn on cu pu gw b_1 b_2 b_3 b_p su po hds kr kv kb oa ob) (fun t_4 =>
    if 7 < t_4.2.2.2.2.2.2.2.2.1 then
      m_k_X10_walkByAll_32 an ch cg fb mh ml ih lb ic cn c1 c2 c3 c4 c5 c6 wn w1 w2 w3 w4 w5 w6 ac obi sc t_4
    else
      if t_4.2.2.2.2.2.2.2.2.2.2.2.2.2.1 ≤ 300 then
        lE (m_k_X9_prepare pp rn en rf ea es t_4.2.2.2.2.2.2.2.2.2.2.2.2.1 t_4.2.2.2.2.2.2.2.2.2.2.2.2.2.1 t_4.2.2.2.2.2.2.2.2.1 t_4.2.2.2.2.2.2.2.2.2.2.2.2.2.2.1 t_4.2.2.2.2.2.2.2.2.2.2.2.2.2.2.2.1 t_4.2.2.2.2.2.2.2.2.2.2.2.2.2.2.2.2.1 t_4.2.2.2.2.2.2.2.2.2.2.2.2.2.2.2.2.2 t_4.1 t_4.2.1 t_4.2.2.1 t_4.2.2.2.1 t_4.2.2.2.2.1 t_4.2.2.2.2.2.2.1 t_4.2.2.2.2.2.2.2.1 ch cg fb lb ic cn c1 c2 c3 c4 c5 c6 wn w1 w2 w3 w4 w5 w6 obi sc ai ao) (fun t_55 =>
          lE (m_k_X9_countByAll pp rn rf t_4.2.2.2.2.2.2.2.2.1 an t_55.2.2.2.2.2.2.2.2.1 t_55.2.1 t_55.2.2.1 t_55.2.2.2.1 t_55.2.2.2.2.1 t_55.2.2.2.2.2.1 t_55.2.2.2.2.2.2.1 t_55.2.2.2.2.2.2.2.2.2.1 t_55.2.2.2.2.2.2.2.2.2.2.1 t_55.2.2.2.2.2.2.2.2.2.2.2.1 t_55.2.2.2.2.2.2.2.2.2.2.2.2.1 t_55.2.2.2.2.2.2.2.2.2.2.2.2.2.1 t_55.2.2.2.2.2.2.2.2.2.2.2.2.2.2.1 t_55.2.2.2.2.2.2.2.2.2.2.2.2.2.2.2.1 ac t_55.2.2.2.2.2.2.2.2.2.2.2.2.2.2.2.2.2.2.2.2.2.2.2.1 t_55.2.2.2.2.2.2.2.2.2.2.2.2.2.2.2.2.2.2.2.2.2.2.2.2.1) (fun t_62 =>
            (0, t_62.1, t_4.1, t_4.2.1, t_55.1, t_4.2.2.2.1, t_4.2.2.2.2.1, t_4.2.2.2.2.2.1, t_4.2.2.2.2.2.2.1, t_4.2.2.2.2.2.2.2.1, t_55.2.1, t_55.2.2.1, t_55.2.2.2.1, t_55.2.2.2.2.1, t_55.2.2.2.2.2.1, t_62.2.1, t_55.2.2.2.2.2.2.2.1, t_62.2.2.1, t_55.2.2.2.2.2.2.2.2.1, t_55.2.2.2.2.2.2.2.2.2.1, t_55.2.2.2.2.2.2.2.2.2.2.1, t_55.2.2.2.2.2.2.2.2.2.2.2.1, t_55.2.2.2.2.2.2.2.2.2.2.2.2.1, t_55.2.2.2.2.2.2.2.2.2.2.2.2.2.1, t_55.2.2.2.2.2.2.2.2.2.2.2.2.2.2.1, t_55.2.2.2.2.2.2.2.2.2.2.2.2.2.2.2.1, t_55.2.2.2.2.2.2.2.2.2.2.2.2.2.2.2.2.1, t_55.2.2.2.2.2.2.2.2.2.2.2.2.2.2.2.2.2.1, t_55.2.2.2.2.2.2.2.2.2.2.2.2.2.2.2.2.2.2.1, t_55.2.2.2.2.2.2.2.2.2.2.2.2.2.2.2.2.2.2.2.1, t_55.2.2.2.2.2.2.2.2.2.2.2.2.2.2.2.2.2.2.2.2.1, t_55.2.2.2.2.2.2.2.2.2.2.2.2.2.2.2.2.2.2.2.2.2.1, t_55.2.2.2.2.2.2.2.2.2.2.2.2.2.2.2.2.2.2.2.2.2.2.1, t_62.2.2.2, t_55.2.2.2.2.2.2.2.2.2.2.2.2.2.2.2.2.2.2.2.2.2.2.2.1, t_55.2.2.2.2.2.2.2.2.2.2.2.2.2.2.2.2.2.2.2.2.2.2.2.2.1, t_4.2.2.2.2.2.2.2.2.1, t_4.2.2.2.2.2.2.2.2.2.1, t_4.2.2.2.2.2.2.2.2.2.2.1, t_4.2.2.2.2.2.2.2.2.2.2.2.1, t_55.2.2.2.2.2.2.2.2.2.2.2.2.2.2.2.2.2.2.2.2.2.2.2.2.2.1, t_4.2.2.2.2.2.2.2.2.2.2.2.2.2.1, t_55.2.2.2.2.2.2.2.2.2.2.2.2.2.2.2.2.2.2.2.2.2.2.2.2.2.2.1, t_55.2.2.2.2.2.2.2.2.2.2.2.2.2.2.2.2.2.2.2.2.2.2.2.2.2.2.2.1, t_55.2.2.2.2.2.2.2.2.2.2.2.2.2.2.2.2.2.2.2.2.2.2.2.2.2.2.2.2.1, t_55.2.2.2.2.2.2.2.2.2.2.2.2.2.2.2.2.2.2.2.2.2.2.2.2.2.2.2.2.2)))
      else
        m_k_X10_walkByAll_32 an ch cg fb mh ml ih lb ic cn c1 c2 c3 c4 c5 c6 wn w1 w2 w3 w4 w5 w6 ac obi sc t_4)
def vs_k_X10_walkByAll : List Cond := .code yX10_walkByAll cX10_walkByAll 1 (some .int) :: ([.fieldLink RX10 21 "AnswerFold" "grounding" "LAnswerFold$Grounding;", .methodLink RX10 251 yX3_refresh, .instanceMethod yX3_refresh, .selects RX3 yX3_refresh yX3_refresh, .initialized RX3, .classLink RX10 272 "java/lang/UnsupportedOperationException", .initialized "java/lang/UnsupportedOperationException", .fieldLink RX10 30 "AnswerFold" "solver" "LAnswerFold$Solver;", .fieldLink RX10 46 "AnswerFold" "assumedIn" "LAnswerFold$AtomSet;", .fieldLink RX10 50 "AnswerFold" "assumedOut" "LAnswerFold$AtomSet;", .methodLink RX10 284 yX9_prepare, .instanceMethod yX9_prepare, .selects RX9 yX9_prepare yX9_prepare, .initialized RX9, .methodLink RX10 296 yX9_countByAll, .instanceMethod yX9_countByAll, .selects RX9 yX9_countByAll yX9_countByAll] ++ (u_ws RX10 TX10 7 ++ (vs_k_X3_refresh ++ (u_ws RX3 TX3 16 ++ ((vx_atS RX10 276 "java/lang/UnsupportedOperationException" ["java/lang/RuntimeException", "java/lang/Exception"]).filter goodWord ++ (vs_k_X9_prepare ++ (vs_k_X9_countByAll)))))))
theorem iv_k_X10_walkByAll_X10 : ∀ w ∈ u_ws RX10 TX10 7, w ∈ vs_k_X10_walkByAll := (fun _ h => List.mem_cons_of_mem _ (List.mem_append_right _ (List.mem_append_left _ h)))
theorem iv_k_X10_walkByAll_X3 : ∀ w ∈ u_ws RX3 TX3 16, w ∈ vs_k_X10_walkByAll := (fun _ h => List.mem_cons_of_mem _ (List.mem_append_right _ (List.mem_append_right _ (List.mem_append_right _ (List.mem_append_left _ h)))))
set_option maxRecDepth 20000 in
theorem gv_k_X10_walkByAll_0 : GoodIn vs_k_X10_walkByAll (wsV RX10 251 RX3 yX3_refresh vs_k_X3_refresh) := goodIn_app (goodIn_sub (by decide +kernel) (by decide +kernel)) (goodIn_sub (fun _ h => List.mem_cons_of_mem _ (List.mem_append_right _ (List.mem_append_right _ (List.mem_append_left _ h)))) (by decide +kernel))
set_option maxRecDepth 20000 in
theorem gv_k_X10_walkByAll_1 : GoodIn vs_k_X10_walkByAll (wsV RX10 284 RX9 yX9_prepare vs_k_X9_prepare) := goodIn_app (goodIn_sub (by decide +kernel) (by decide +kernel)) (goodIn_sub (fun _ h => List.mem_cons_of_mem _ (List.mem_append_right _ (List.mem_append_right _ (List.mem_append_right _ (List.mem_append_right _ (List.mem_append_right _ (List.mem_append_left _ h))))))) (by decide +kernel))
set_option maxRecDepth 20000 in
theorem gv_k_X10_walkByAll_2 : GoodIn vs_k_X10_walkByAll (wsV RX10 296 RX9 yX9_countByAll vs_k_X9_countByAll) := goodIn_app (goodIn_sub (by decide +kernel) (by decide +kernel)) (goodIn_sub (fun _ h => List.mem_cons_of_mem _ (List.mem_append_right _ (List.mem_append_right _ (List.mem_append_right _ (List.mem_append_right _ (List.mem_append_right _ (List.mem_append_right _ (h)))))))) (by decide +kernel))
theorem ix_k_X10_walkByAll_276 : ∀ w ∈ (vx_atS RX10 276 "java/lang/UnsupportedOperationException" ["java/lang/RuntimeException", "java/lang/Exception"]).filter goodWord, w ∈ vs_k_X10_walkByAll := (fun _ h => List.mem_cons_of_mem _ (List.mem_append_right _ (List.mem_append_right _ (List.mem_append_right _ (List.mem_append_right _ (List.mem_append_left _ h))))))
set_option maxHeartbeats 4000000 in
set_option maxRecDepth 100000 in
theorem k_X10_walkByAll (l : Launch) (hl9 : l.stackTraces = false) (D : va_G) (ty : Nat → ClassId) (td mi sz : Nat) (pp : pT) (X : Nat → Nat) (pn : Int32) (rn : Int32) (tn : Int32) (en : Int32) (rf : Nat → Option Nat) (tp : Nat → Int32) (tq : Nat → Int32) (ea : Nat → Int32) (es : Nat → Int32) (hn : Int32) (kn : Int32) (on : Int32) (cu : Int32) (pu : Int32) (gw : Int32) (b_1 : Int32) (b_2 : Int32) (b_3 : Int32) (b_p : Int32) (su : Nat → Int64) (po : Nat → Int64) (hds : Nat → Int32) (kr : Nat → Int32) (kv : Nat → Int32) (kb : Nat → Int32) (oa : Nat → Int32) (ob : Nat → Int32) (an : Int32) (ch : Int32) (cg : Int32) (fb : Int32) (mh : Int32) (ml : Int32) (ih : Int32) (lb : Int32) (ic : Int32) (cn : Int32) (c1 : Nat → Int32) (c2 : Nat → Int32) (c3 : Nat → Int32) (c4 : Nat → Int32) (c5 : Nat → Int32) (c6 : Nat → Int32) (wn : Int32) (w1 : Nat → Int32) (w2 : Nat → Int32) (w3 : Nat → Int32) (w4 : Nat → Int32) (w5 : Nat → Int32) (w6 : Nat → Int32) (ac : Nat → Int32) (obi : Nat → Int32) (sc : Nat → Int32) (ai : Nat → Int64) (ao : Nat → Int64) (hok : pOK pp) (hru : ∀ (i a : Nat), rf i = some a → a ∈ pRA pp) (hch : ∀ i : Nat, narrow .char (.int (es i)) = .int (es i)) (TT : r_k_X10_walkByAll) (hTT : TT = m_k_X10_walkByAll pp rn tn en rf tp tq ea es hn kn on cu pu gw b_1 b_2 b_3 b_p su po hds kr kv kb oa ob an ch cg fb mh ml ih lb ic cn c1 c2 c3 c4 c5 c6 wn w1 w2 w3 w4 w5 w6 ac obi sc ai ao) : vx_Met l yX10_walkByAll vs_k_X10_walkByAll { frames := 7, cells := 1, slots := 6, locals := 171 } (va_Pc [.ref (X 0)] (wq_P D ty td mi ((wW_k_X10_walkByAll ty X pn rn tn en rf tp tq ea es hn kn on cu pu gw b_1 b_2 b_3 b_p su po hds kr kv kb oa ob an ch cg fb mh ml ih lb ic cn c1 c2 c3 c4 c5 c6 wn w1 w2 w3 w4 w5 w6 ac obi sc ai ao) ++ pw ty pp) sz)) (va_Qi (fun (r : Int32) (u : va_W) => (TT.1 = 0 ∧ r = TT.2.1 ∧ (u = ((wW_k_X10_walkByAll ty X pn rn tn en rf tp tq ea es TT.2.2.2.2.2.2.2.2.2.2.2.2.2.2.2.2.2.2.2.2.2.2.2.2.2.2.2.2.2.2.2.2.2.2.2.2.2.2.2.2.1 TT.2.2.2.2.2.2.2.2.2.2.2.2.2.2.2.2.2.2.2.2.2.2.2.2.2.2.2.2.2.2.2.2.2.2.2.2.2.2.2.2.2.1 TT.2.2.2.2.2.2.2.2.2.2.2.2.2.2.2.2.2.2.2.2.2.2.2.2.2.2.2.2.2.2.2.2.2.2.2.2.1 TT.2.2.2.2.2.2.2.2.2.2.2.2.2.2.2.2.2.2.2.2.2.2.2.2.2.2.2.2.2.2.2.2.2.2.2.2.2.1 TT.2.2.2.2.2.2.2.2.2.2.2.2.2.2.2.2.2.2.2.2.2.2.2.2.2.2.2.2.2.2.2.2.2.2.2.2.2.2.1 TT.2.2.2.2.2.2.2.2.2.2.2.2.2.2.2.2.2.2.2.2.2.2.2.2.2.2.2.2.2.2.2.2.2.2.2.2.2.2.2.1 TT.2.2.2.2.2.2.2.2.2.2.2.2.2.2.2.2.2.2.2.2.2.2.2.2.2.2.2.2.2.2.2.2.2.2.2.2.2.2.2.2.2.2.1 TT.2.2.2.2.2.2.2.2.2.2.2.2.2.2.2.2.2.2.2.2.2.2.2.2.2.2.2.2.2.2.2.2.2.2.2.2.2.2.2.2.2.2.2.1 TT.2.2.2.2.2.2.2.2.2.2.2.2.2.2.2.2.2.2.2.2.2.2.2.2.2.2.2.2.2.2.2.2.2.2.2.2.2.2.2.2.2.2.2.2.1 TT.2.2.2.2.2.2.2.2.2.2.2.2.2.2.2.2.2.2.2.2.2.2.2.2.2.2.2.2.2.2.2.2.2.2.2.2.2.2.2.2.2.2.2.2.2 TT.2.2.1 TT.2.2.2.1 TT.2.2.2.2.1 TT.2.2.2.2.2.1 TT.2.2.2.2.2.2.1 TT.2.2.2.2.2.2.2.1 TT.2.2.2.2.2.2.2.2.1 TT.2.2.2.2.2.2.2.2.2.1 TT.2.2.2.2.2.2.2.2.2.2.2.2.2.2.2.2.2.1 TT.2.2.2.2.2.2.2.2.2.2.2.2.2.2.2.2.2.2.1 TT.2.2.2.2.2.2.2.2.2.2.1 TT.2.2.2.2.2.2.2.2.2.2.2.1 TT.2.2.2.2.2.2.2.2.2.2.2.2.1 TT.2.2.2.2.2.2.2.2.2.2.2.2.2.1 TT.2.2.2.2.2.2.2.2.2.2.2.2.2.2.1 TT.2.2.2.2.2.2.2.2.2.2.2.2.2.2.2.1 TT.2.2.2.2.2.2.2.2.2.2.2.2.2.2.2.2.1 TT.2.2.2.2.2.2.2.2.2.2.2.2.2.2.2.2.2.2.2.1 TT.2.2.2.2.2.2.2.2.2.2.2.2.2.2.2.2.2.2.2.2.1 TT.2.2.2.2.2.2.2.2.2.2.2.2.2.2.2.2.2.2.2.2.2.1 TT.2.2.2.2.2.2.2.2.2.2.2.2.2.2.2.2.2.2.2.2.2.2.1 TT.2.2.2.2.2.2.2.2.2.2.2.2.2.2.2.2.2.2.2.2.2.2.2.1 TT.2.2.2.2.2.2.2.2.2.2.2.2.2.2.2.2.2.2.2.2.2.2.2.2.1 TT.2.2.2.2.2.2.2.2.2.2.2.2.2.2.2.2.2.2.2.2.2.2.2.2.2.1 TT.2.2.2.2.2.2.2.2.2.2.2.2.2.2.2.2.2.2.2.2.2.2.2.2.2.2.1 TT.2.2.2.2.2.2.2.2.2.2.2.2.2.2.2.2.2.2.2.2.2.2.2.2.2.2.2.1 TT.2.2.2.2.2.2.2.2.2.2.2.2.2.2.2.2.2.2.2.2.2.2.2.2.2.2.2.2.1 TT.2.2.2.2.2.2.2.2.2.2.2.2.2.2.2.2.2.2.2.2.2.2.2.2.2.2.2.2.2.1 TT.2.2.2.2.2.2.2.2.2.2.2.2.2.2.2.2.2.2.2.2.2.2.2.2.2.2.2.2.2.2.1 TT.2.2.2.2.2.2.2.2.2.2.2.2.2.2.2.2.2.2.2.2.2.2.2.2.2.2.2.2.2.2.2.1 TT.2.2.2.2.2.2.2.2.2.2.2.2.2.2.2.2.2.2.2.2.2.2.2.2.2.2.2.2.2.2.2.2.1 TT.2.2.2.2.2.2.2.2.2.2.2.2.2.2.2.2.2.2.2.2.2.2.2.2.2.2.2.2.2.2.2.2.2.1 TT.2.2.2.2.2.2.2.2.2.2.2.2.2.2.2.2.2.2.2.2.2.2.2.2.2.2.2.2.2.2.2.2.2.2.1 TT.2.2.2.2.2.2.2.2.2.2.2.2.2.2.2.2.2.2.2.2.2.2.2.2.2.2.2.2.2.2.2.2.2.2.2.1 ai ao) ++ pw ty pp)))) (wq_B D (va_A ((wW_k_X10_walkByAll ty X pn rn tn en rf tp tq ea es hn kn on cu pu gw b_1 b_2 b_3 b_p su po hds kr kv kb oa ob an ch cg fb mh ml ih lb ic cn c1 c2 c3 c4 c5 c6 wn w1 w2 w3 w4 w5 w6 ac obi sc ai ao) ++ pw ty pp) sz)) (va_A ((wW_k_X10_walkByAll ty X pn rn tn en rf tp tq ea es hn kn on cu pu gw b_1 b_2 b_3 b_p su po hds kr kv kb oa ob an ch cg fb mh ml ih lb ic cn c1 c2 c3 c4 c5 c6 wn w1 w2 w3 w4 w5 w6 ac obi sc ai ao) ++ pw ty pp) sz)) (vx_X (fun u : String × va_W => (TT.1 = 4 ∧ u = ("java/lang/UnsupportedOperationException", ((wW_k_X10_walkByAll ty X pn rn tn en rf tp tq ea es TT.2.2.2.2.2.2.2.2.2.2.2.2.2.2.2.2.2.2.2.2.2.2.2.2.2.2.2.2.2.2.2.2.2.2.2.2.2.2.2.2.1 TT.2.2.2.2.2.2.2.2.2.2.2.2.2.2.2.2.2.2.2.2.2.2.2.2.2.2.2.2.2.2.2.2.2.2.2.2.2.2.2.2.2.1 TT.2.2.2.2.2.2.2.2.2.2.2.2.2.2.2.2.2.2.2.2.2.2.2.2.2.2.2.2.2.2.2.2.2.2.2.2.1 TT.2.2.2.2.2.2.2.2.2.2.2.2.2.2.2.2.2.2.2.2.2.2.2.2.2.2.2.2.2.2.2.2.2.2.2.2.2.1 TT.2.2.2.2.2.2.2.2.2.2.2.2.2.2.2.2.2.2.2.2.2.2.2.2.2.2.2.2.2.2.2.2.2.2.2.2.2.2.1 TT.2.2.2.2.2.2.2.2.2.2.2.2.2.2.2.2.2.2.2.2.2.2.2.2.2.2.2.2.2.2.2.2.2.2.2.2.2.2.2.1 TT.2.2.2.2.2.2.2.2.2.2.2.2.2.2.2.2.2.2.2.2.2.2.2.2.2.2.2.2.2.2.2.2.2.2.2.2.2.2.2.2.2.2.1 TT.2.2.2.2.2.2.2.2.2.2.2.2.2.2.2.2.2.2.2.2.2.2.2.2.2.2.2.2.2.2.2.2.2.2.2.2.2.2.2.2.2.2.2.1 TT.2.2.2.2.2.2.2.2.2.2.2.2.2.2.2.2.2.2.2.2.2.2.2.2.2.2.2.2.2.2.2.2.2.2.2.2.2.2.2.2.2.2.2.2.1 TT.2.2.2.2.2.2.2.2.2.2.2.2.2.2.2.2.2.2.2.2.2.2.2.2.2.2.2.2.2.2.2.2.2.2.2.2.2.2.2.2.2.2.2.2.2 TT.2.2.1 TT.2.2.2.1 TT.2.2.2.2.1 TT.2.2.2.2.2.1 TT.2.2.2.2.2.2.1 TT.2.2.2.2.2.2.2.1 TT.2.2.2.2.2.2.2.2.1 TT.2.2.2.2.2.2.2.2.2.1 TT.2.2.2.2.2.2.2.2.2.2.2.2.2.2.2.2.2.1 TT.2.2.2.2.2.2.2.2.2.2.2.2.2.2.2.2.2.2.1 TT.2.2.2.2.2.2.2.2.2.2.1 TT.2.2.2.2.2.2.2.2.2.2.2.1 TT.2.2.2.2.2.2.2.2.2.2.2.2.1 TT.2.2.2.2.2.2.2.2.2.2.2.2.2.1 TT.2.2.2.2.2.2.2.2.2.2.2.2.2.2.1 TT.2.2.2.2.2.2.2.2.2.2.2.2.2.2.2.1 TT.2.2.2.2.2.2.2.2.2.2.2.2.2.2.2.2.1 TT.2.2.2.2.2.2.2.2.2.2.2.2.2.2.2.2.2.2.2.1 TT.2.2.2.2.2.2.2.2.2.2.2.2.2.2.2.2.2.2.2.2.1 TT.2.2.2.2.2.2.2.2.2.2.2.2.2.2.2.2.2.2.2.2.2.1 TT.2.2.2.2.2.2.2.2.2.2.2.2.2.2.2.2.2.2.2.2.2.2.1 TT.2.2.2.2.2.2.2.2.2.2.2.2.2.2.2.2.2.2.2.2.2.2.2.1 TT.2.2.2.2.2.2.2.2.2.2.2.2.2.2.2.2.2.2.2.2.2.2.2.2.1 TT.2.2.2.2.2.2.2.2.2.2.2.2.2.2.2.2.2.2.2.2.2.2.2.2.2.1 TT.2.2.2.2.2.2.2.2.2.2.2.2.2.2.2.2.2.2.2.2.2.2.2.2.2.2.1 TT.2.2.2.2.2.2.2.2.2.2.2.2.2.2.2.2.2.2.2.2.2.2.2.2.2.2.2.1 TT.2.2.2.2.2.2.2.2.2.2.2.2.2.2.2.2.2.2.2.2.2.2.2.2.2.2.2.2.1 TT.2.2.2.2.2.2.2.2.2.2.2.2.2.2.2.2.2.2.2.2.2.2.2.2.2.2.2.2.2.1 TT.2.2.2.2.2.2.2.2.2.2.2.2.2.2.2.2.2.2.2.2.2.2.2.2.2.2.2.2.2.2.1 TT.2.2.2.2.2.2.2.2.2.2.2.2.2.2.2.2.2.2.2.2.2.2.2.2.2.2.2.2.2.2.2.1 TT.2.2.2.2.2.2.2.2.2.2.2.2.2.2.2.2.2.2.2.2.2.2.2.2.2.2.2.2.2.2.2.2.1 TT.2.2.2.2.2.2.2.2.2.2.2.2.2.2.2.2.2.2.2.2.2.2.2.2.2.2.2.2.2.2.2.2.2.1 TT.2.2.2.2.2.2.2.2.2.2.2.2.2.2.2.2.2.2.2.2.2.2.2.2.2.2.2.2.2.2.2.2.2.2.1 TT.2.2.2.2.2.2.2.2.2.2.2.2.2.2.2.2.2.2.2.2.2.2.2.2.2.2.2.2.2.2.2.2.2.2.2.1 ai ao) ++ pw ty pp)))) (wq_BX D (va_A ((wW_k_X10_walkByAll ty X pn rn tn en rf tp tq ea es hn kn on cu pu gw b_1 b_2 b_3 b_p su po hds kr kv kb oa ob an ch cg fb mh ml ih lb ic cn c1 c2 c3 c4 c5 c6 wn w1 w2 w3 w4 w5 w6 ac obi sc ai ao) ++ pw ty pp) sz)) (va_A ((wW_k_X10_walkByAll ty X pn rn tn en rf tp tq ea es hn kn on cu pu gw b_1 b_2 b_3 b_p su po hds kr kv kb oa ob an ch cg fb mh ml ih lb ic cn c1 c2 c3 c4 c5 c6 wn w1 w2 w3 w4 w5 w6 ac obi sc ai ao) ++ pw ty pp) sz)) 1 6 (va_A ((wW_k_X10_walkByAll ty X pn rn tn en rf tp tq ea es hn kn on cu pu gw b_1 b_2 b_3 b_p su po hds kr kv kb oa ob an ch cg fb mh ml ih lb ic cn c1 c2 c3 c4 c5 c6 wn w1 w2 w3 w4 w5 w6 ac obi sc ai ao) ++ pw ty pp) sz) := by
  refine vx_ofW (cc := cX10_walkByAll) (maxL := 1) (ret := (some .int)) (by decide) rfl ?_
  intro p e s m args below meth c s₁ B hml hEx hv
  obtain ⟨rfl, hsz, hP, hK, hD0, hE⟩ := hv
  have hx := B.exec
  have hb := B.bytes
  have hr := B.returns
  have hts := atoms_spec (ws := vs_k_X10_walkByAll) B.pre
  have hown : s.vm.findClass RX10 = some m.cls := findClass_of_methodNamed B.named
  have hlocks := B.notSynchronized
  subst hsz
  have hD := hD0.self (sz := s.heap.size)
  generalize hAe : va_A ((wW_k_X10_walkByAll ty X pn rn tn en rf tp tq ea es hn kn on cu pu gw b_1 b_2 b_3 b_p su po hds kr kv kb oa ob an ch cg fb mh ml ih lb ic cn c1 c2 c3 c4 c5 c6 wn w1 w2 w3 w4 w5 w6 ac obi sc ai ao) ++ pw ty pp) s.heap.size = A at hD hE ⊢
  have hA : ∀ q : Nat, s.heap.size ≤ q → A q := fun q h => by rw [← hAe]; exact Or.inr h
  have hS : va_S A s.heap s.heap [] := va_S.rf
  have hP : va_P D vwCl ((wW_k_X10_walkByAll ty X pn rn tn en rf tp tq ea es hn kn on cu pu gw b_1 b_2 b_3 b_p su po hds kr kv kb oa ob an ch cg fb mh ml ih lb ic cn c1 c2 c3 c4 c5 c6 wn w1 w2 w3 w4 w5 w6 ac obi sc ai ao) ++ pw ty pp) s.heap := hP
  have hl := lv_entry ([.ref (X 0)]) (n := 1) (Nat.le_of_ble_eq_true rfl)
  rw [lg_entry_eq]
  generalize (lg_sl ([.ref (X 0)]) ++ List.replicate (1 - (lg_sl ([.ref (X 0)])).length) Slot.unset).toArray = ls at hl ⊢
  have hl : lv_has ls 1 [(0, .ref (X 0))] := hl
  have END : ∀ (r : Int32) (e0 : Nat → Int64) (e1 : Nat → Int64) (e2 : Nat → Int32) (e3 : Nat → Int32) (e4 : Nat → Int32) (e5 : Nat → Int32) (e6 : Nat → Int32) (e7 : Nat → Int32) (e8 : Int32) (e9 : Int32) (e10 : Int32) (e11 : Int32) (e12 : Int32) (e13 : Int32) (e14 : Int32) (e15 : Int32) (e16 : Int32) (e17 : Int32) (e18 : Nat → Int32) (e19 : Nat → Int32) (e20 : Nat → Int32) (e21 : Nat → Int32) (e22 : Nat → Int32) (e23 : Nat → Int32) (e24 : Int32) (e25 : Nat → Int32) (e26 : Nat → Int32) (e27 : Nat → Int32) (e28 : Nat → Int32) (e29 : Nat → Int32) (e30 : Nat → Int32) (e31 : Nat → Int32) (e32 : Nat → Int32) (e33 : Nat → Int32) (e34 : Int32) (e35 : Int32) (e36 : Int32) (e37 : Int32) (e38 : Int32) (e39 : Int32) (e40 : Int32) (e41 : Int32) (e42 : Int32) (e43 : Int32), TT = (0, r, e0, e1, e2, e3, e4, e5, e6, e7, e8, e9, e10, e11, e12, e13, e14, e15, e16, e17, e18, e19, e20, e21, e22, e23, e24, e25, e26, e27, e28, e29, e30, e31, e32, e33, e34, e35, e36, e37, e38, e39, e40, e41, e42, e43) → ∀ (H : Heap) (locs : List Loc), va_P D vwCl ((wW_k_X10_walkByAll ty X pn rn tn en rf tp tq ea es e38 e39 e34 e35 e36 e37 e40 e41 e42 e43 e0 e1 e2 e3 e4 e5 e6 e7 e15 e16 e8 e9 e10 e11 e12 e13 e14 e17 e18 e19 e20 e21 e22 e23 e24 e25 e26 e27 e28 e29 e30 e31 e32 e33 ai ao) ++ pw ty pp) H → va_D A ((wW_k_X10_walkByAll ty X pn rn tn en rf tp tq ea es e38 e39 e34 e35 e36 e37 e40 e41 e42 e43 e0 e1 e2 e3 e4 e5 e6 e7 e15 e16 e8 e9 e10 e11 e12 e13 e14 e17 e18 e19 e20 e21 e22 e23 e24 e25 e26 e27 e28 e29 e30 e31 e32 e33 ai ao) ++ pw ty pp) → va_S A s.heap H locs → ∀ (ls : Array Slot) (pc : Nat), decode cX10_walkByAll pc = .ok (.ireturn, 1) → W p l e (headSpec vs_k_X10_walkByAll { frames := 7, cells := 1, slots := 6, locals := 171 }).room s m ([.ref (X 0)] : List Value).toArray below meth c H locs 1 6 (vx_MQ below (va_Qi (fun (r : Int32) (u : va_W) => (TT.1 = 0 ∧ r = TT.2.1 ∧ (u = ((wW_k_X10_walkByAll ty X pn rn tn en rf tp tq ea es TT.2.2.2.2.2.2.2.2.2.2.2.2.2.2.2.2.2.2.2.2.2.2.2.2.2.2.2.2.2.2.2.2.2.2.2.2.2.2.2.2.1 TT.2.2.2.2.2.2.2.2.2.2.2.2.2.2.2.2.2.2.2.2.2.2.2.2.2.2.2.2.2.2.2.2.2.2.2.2.2.2.2.2.2.1 TT.2.2.2.2.2.2.2.2.2.2.2.2.2.2.2.2.2.2.2.2.2.2.2.2.2.2.2.2.2.2.2.2.2.2.2.2.1 TT.2.2.2.2.2.2.2.2.2.2.2.2.2.2.2.2.2.2.2.2.2.2.2.2.2.2.2.2.2.2.2.2.2.2.2.2.2.1 TT.2.2.2.2.2.2.2.2.2.2.2.2.2.2.2.2.2.2.2.2.2.2.2.2.2.2.2.2.2.2.2.2.2.2.2.2.2.2.1 TT.2.2.2.2.2.2.2.2.2.2.2.2.2.2.2.2.2.2.2.2.2.2.2.2.2.2.2.2.2.2.2.2.2.2.2.2.2.2.2.1 TT.2.2.2.2.2.2.2.2.2.2.2.2.2.2.2.2.2.2.2.2.2.2.2.2.2.2.2.2.2.2.2.2.2.2.2.2.2.2.2.2.2.2.1 TT.2.2.2.2.2.2.2.2.2.2.2.2.2.2.2.2.2.2.2.2.2.2.2.2.2.2.2.2.2.2.2.2.2.2.2.2.2.2.2.2.2.2.2.1 TT.2.2.2.2.2.2.2.2.2.2.2.2.2.2.2.2.2.2.2.2.2.2.2.2.2.2.2.2.2.2.2.2.2.2.2.2.2.2.2.2.2.2.2.2.1 TT.2.2.2.2.2.2.2.2.2.2.2.2.2.2.2.2.2.2.2.2.2.2.2.2.2.2.2.2.2.2.2.2.2.2.2.2.2.2.2.2.2.2.2.2.2 TT.2.2.1 TT.2.2.2.1 TT.2.2.2.2.1 TT.2.2.2.2.2.1 TT.2.2.2.2.2.2.1 TT.2.2.2.2.2.2.2.1 TT.2.2.2.2.2.2.2.2.1 TT.2.2.2.2.2.2.2.2.2.1 TT.2.2.2.2.2.2.2.2.2.2.2.2.2.2.2.2.2.1 TT.2.2.2.2.2.2.2.2.2.2.2.2.2.2.2.2.2.2.1 TT.2.2.2.2.2.2.2.2.2.2.1 TT.2.2.2.2.2.2.2.2.2.2.2.1 TT.2.2.2.2.2.2.2.2.2.2.2.2.1 TT.2.2.2.2.2.2.2.2.2.2.2.2.2.1 TT.2.2.2.2.2.2.2.2.2.2.2.2.2.2.1 TT.2.2.2.2.2.2.2.2.2.2.2.2.2.2.2.1 TT.2.2.2.2.2.2.2.2.2.2.2.2.2.2.2.2.1 TT.2.2.2.2.2.2.2.2.2.2.2.2.2.2.2.2.2.2.2.1 TT.2.2.2.2.2.2.2.2.2.2.2.2.2.2.2.2.2.2.2.2.1 TT.2.2.2.2.2.2.2.2.2.2.2.2.2.2.2.2.2.2.2.2.2.1 TT.2.2.2.2.2.2.2.2.2.2.2.2.2.2.2.2.2.2.2.2.2.2.1 TT.2.2.2.2.2.2.2.2.2.2.2.2.2.2.2.2.2.2.2.2.2.2.2.1 TT.2.2.2.2.2.2.2.2.2.2.2.2.2.2.2.2.2.2.2.2.2.2.2.2.1 TT.2.2.2.2.2.2.2.2.2.2.2.2.2.2.2.2.2.2.2.2.2.2.2.2.2.1 TT.2.2.2.2.2.2.2.2.2.2.2.2.2.2.2.2.2.2.2.2.2.2.2.2.2.2.1 TT.2.2.2.2.2.2.2.2.2.2.2.2.2.2.2.2.2.2.2.2.2.2.2.2.2.2.2.1 TT.2.2.2.2.2.2.2.2.2.2.2.2.2.2.2.2.2.2.2.2.2.2.2.2.2.2.2.2.1 TT.2.2.2.2.2.2.2.2.2.2.2.2.2.2.2.2.2.2.2.2.2.2.2.2.2.2.2.2.2.1 TT.2.2.2.2.2.2.2.2.2.2.2.2.2.2.2.2.2.2.2.2.2.2.2.2.2.2.2.2.2.2.1 TT.2.2.2.2.2.2.2.2.2.2.2.2.2.2.2.2.2.2.2.2.2.2.2.2.2.2.2.2.2.2.2.1 TT.2.2.2.2.2.2.2.2.2.2.2.2.2.2.2.2.2.2.2.2.2.2.2.2.2.2.2.2.2.2.2.2.1 TT.2.2.2.2.2.2.2.2.2.2.2.2.2.2.2.2.2.2.2.2.2.2.2.2.2.2.2.2.2.2.2.2.2.1 TT.2.2.2.2.2.2.2.2.2.2.2.2.2.2.2.2.2.2.2.2.2.2.2.2.2.2.2.2.2.2.2.2.2.2.1 TT.2.2.2.2.2.2.2.2.2.2.2.2.2.2.2.2.2.2.2.2.2.2.2.2.2.2.2.2.2.2.2.2.2.2.2.1 ai ao) ++ pw ty pp)))) (wq_B D A) A) (vx_X (fun u : String × va_W => (TT.1 = 4 ∧ u = ("java/lang/UnsupportedOperationException", ((wW_k_X10_walkByAll ty X pn rn tn en rf tp tq ea es TT.2.2.2.2.2.2.2.2.2.2.2.2.2.2.2.2.2.2.2.2.2.2.2.2.2.2.2.2.2.2.2.2.2.2.2.2.2.2.2.2.1 TT.2.2.2.2.2.2.2.2.2.2.2.2.2.2.2.2.2.2.2.2.2.2.2.2.2.2.2.2.2.2.2.2.2.2.2.2.2.2.2.2.2.1 TT.2.2.2.2.2.2.2.2.2.2.2.2.2.2.2.2.2.2.2.2.2.2.2.2.2.2.2.2.2.2.2.2.2.2.2.2.1 TT.2.2.2.2.2.2.2.2.2.2.2.2.2.2.2.2.2.2.2.2.2.2.2.2.2.2.2.2.2.2.2.2.2.2.2.2.2.1 TT.2.2.2.2.2.2.2.2.2.2.2.2.2.2.2.2.2.2.2.2.2.2.2.2.2.2.2.2.2.2.2.2.2.2.2.2.2.2.1 TT.2.2.2.2.2.2.2.2.2.2.2.2.2.2.2.2.2.2.2.2.2.2.2.2.2.2.2.2.2.2.2.2.2.2.2.2.2.2.2.1 TT.2.2.2.2.2.2.2.2.2.2.2.2.2.2.2.2.2.2.2.2.2.2.2.2.2.2.2.2.2.2.2.2.2.2.2.2.2.2.2.2.2.2.1 TT.2.2.2.2.2.2.2.2.2.2.2.2.2.2.2.2.2.2.2.2.2.2.2.2.2.2.2.2.2.2.2.2.2.2.2.2.2.2.2.2.2.2.2.1 TT.2.2.2.2.2.2.2.2.2.2.2.2.2.2.2.2.2.2.2.2.2.2.2.2.2.2.2.2.2.2.2.2.2.2.2.2.2.2.2.2.2.2.2.2.1 TT.2.2.2.2.2.2.2.2.2.2.2.2.2.2.2.2.2.2.2.2.2.2.2.2.2.2.2.2.2.2.2.2.2.2.2.2.2.2.2.2.2.2.2.2.2 TT.2.2.1 TT.2.2.2.1 TT.2.2.2.2.1 TT.2.2.2.2.2.1 TT.2.2.2.2.2.2.1 TT.2.2.2.2.2.2.2.1 TT.2.2.2.2.2.2.2.2.1 TT.2.2.2.2.2.2.2.2.2.1 TT.2.2.2.2.2.2.2.2.2.2.2.2.2.2.2.2.2.1 TT.2.2.2.2.2.2.2.2.2.2.2.2.2.2.2.2.2.2.1 TT.2.2.2.2.2.2.2.2.2.2.1 TT.2.2.2.2.2.2.2.2.2.2.2.1 TT.2.2.2.2.2.2.2.2.2.2.2.2.1 TT.2.2.2.2.2.2.2.2.2.2.2.2.2.1 TT.2.2.2.2.2.2.2.2.2.2.2.2.2.2.1 TT.2.2.2.2.2.2.2.2.2.2.2.2.2.2.2.1 TT.2.2.2.2.2.2.2.2.2.2.2.2.2.2.2.2.1 TT.2.2.2.2.2.2.2.2.2.2.2.2.2.2.2.2.2.2.2.1 TT.2.2.2.2.2.2.2.2.2.2.2.2.2.2.2.2.2.2.2.2.1 TT.2.2.2.2.2.2.2.2.2.2.2.2.2.2.2.2.2.2.2.2.2.1 TT.2.2.2.2.2.2.2.2.2.2.2.2.2.2.2.2.2.2.2.2.2.2.1 TT.2.2.2.2.2.2.2.2.2.2.2.2.2.2.2.2.2.2.2.2.2.2.2.1 TT.2.2.2.2.2.2.2.2.2.2.2.2.2.2.2.2.2.2.2.2.2.2.2.2.1 TT.2.2.2.2.2.2.2.2.2.2.2.2.2.2.2.2.2.2.2.2.2.2.2.2.2.1 TT.2.2.2.2.2.2.2.2.2.2.2.2.2.2.2.2.2.2.2.2.2.2.2.2.2.2.1 TT.2.2.2.2.2.2.2.2.2.2.2.2.2.2.2.2.2.2.2.2.2.2.2.2.2.2.2.1 TT.2.2.2.2.2.2.2.2.2.2.2.2.2.2.2.2.2.2.2.2.2.2.2.2.2.2.2.2.1 TT.2.2.2.2.2.2.2.2.2.2.2.2.2.2.2.2.2.2.2.2.2.2.2.2.2.2.2.2.2.1 TT.2.2.2.2.2.2.2.2.2.2.2.2.2.2.2.2.2.2.2.2.2.2.2.2.2.2.2.2.2.2.1 TT.2.2.2.2.2.2.2.2.2.2.2.2.2.2.2.2.2.2.2.2.2.2.2.2.2.2.2.2.2.2.2.1 TT.2.2.2.2.2.2.2.2.2.2.2.2.2.2.2.2.2.2.2.2.2.2.2.2.2.2.2.2.2.2.2.2.1 TT.2.2.2.2.2.2.2.2.2.2.2.2.2.2.2.2.2.2.2.2.2.2.2.2.2.2.2.2.2.2.2.2.2.1 TT.2.2.2.2.2.2.2.2.2.2.2.2.2.2.2.2.2.2.2.2.2.2.2.2.2.2.2.2.2.2.2.2.2.2.1 TT.2.2.2.2.2.2.2.2.2.2.2.2.2.2.2.2.2.2.2.2.2.2.2.2.2.2.2.2.2.2.2.2.2.2.2.1 ai ao) ++ pw ty pp)))) (wq_BX D A) A) ([.ref (X 0)] : List Value).toArray s 1 6 A) (F0 m pc ls [.int r]) := by
    intro r e0 e1 e2 e3 e4 e5 e6 e7 e8 e9 e10 e11 e12 e13 e14 e15 e16 e17 e18 e19 e20 e21 e22 e23 e24 e25 e26 e27 e28 e29 e30 e31 e32 e33 e34 e35 e36 e37 e38 e39 e40 e41 e42 e43 hT H locs hP hD hS ls pc hd
    have hM : TT = (0, r, e0, e1, e2, e3, e4, e5, e6, e7, e8, e9, e10, e11, e12, e13, e14, e15, e16, e17, e18, e19, e20, e21, e22, e23, e24, e25, e26, e27, e28, e29, e30, e31, e32, e33, e34, e35, e36, e37, e38, e39, e40, e41, e42, e43) := hT
    refine vx_ret ?_
    exact W.iret (v := r) hx hb hr (fun t ht hW => ⟨⟨r, ((wW_k_X10_walkByAll ty X pn rn tn en rf tp tq ea es e38 e39 e34 e35 e36 e37 e40 e41 e42 e43 e0 e1 e2 e3 e4 e5 e6 e7 e15 e16 e8 e9 e10 e11 e12 e13 e14 e17 e18 e19 e20 e21 e22 e23 e24 e25 e26 e27 e28 e29 e30 e31 e32 e33 ai ao) ++ pw ty pp), rfl, ⟨(by rw [hM]), (by rw [hM]), (by rw [hM])⟩, wq_B.of ht hP hD⟩, hS.F ht⟩) hS.2.2 hd
  have hT := hTT
  rw [m_k_X10_walkByAll] at hT
  refine lv_aload_n hx hb dX10_walkByAll_0 rfl (lv_at hl 0 rfl) ?_
  refine va_get (D := D) (ci := 12) (v := .ref (X 8)) (C := RX10) (T := TX10) (N := 7) hx hb hts iv_k_X10_walkByAll_X10 hown hK hP 0 rfl rfl 1 (by decide) (hts (.fieldLink RX10 21 "AnswerFold" "grounding" "LAnswerFold$Grounding;") (by decide +kernel)) (fun _ h9 => h9) rfl dX10_walkByAll_1 ?_
  obtain ⟨t_4, ht_4⟩ : ∃ t, t = m_k_X3_refresh pp rn tn en rf tp tq ea es hn kn on cu pu gw b_1 b_2 b_3 b_p su po hds kr kv kb oa ob := ⟨_, rfl⟩
  rw [lE_eq ht_4] at hT
  refine wq_vPW (wc := (wW_k_X3_refresh ty X pn rn tn en rf tp tq ea es hn kn on cu pu gw b_1 b_2 b_3 b_p su po hds kr kv kb oa ob)) (pl := pw ty pp) (ux := (wW_k_X3_refresh ty X pn rn tn en rf tp tq ea es t_4.2.2.2.2.2.2.2.2.2.2.2.2.1 t_4.2.2.2.2.2.2.2.2.2.2.2.2.2.1 t_4.2.2.2.2.2.2.2.2.1 t_4.2.2.2.2.2.2.2.2.2.1 t_4.2.2.2.2.2.2.2.2.2.2.1 t_4.2.2.2.2.2.2.2.2.2.2.2.1 t_4.2.2.2.2.2.2.2.2.2.2.2.2.2.2.1 t_4.2.2.2.2.2.2.2.2.2.2.2.2.2.2.2.1 t_4.2.2.2.2.2.2.2.2.2.2.2.2.2.2.2.2.1 t_4.2.2.2.2.2.2.2.2.2.2.2.2.2.2.2.2.2 t_4.1 t_4.2.1 t_4.2.2.1 t_4.2.2.2.1 t_4.2.2.2.2.1 t_4.2.2.2.2.2.1 t_4.2.2.2.2.2.2.1 t_4.2.2.2.2.2.2.2.1)) (va_runV (As := []) (rest := []) ⟨hx, hb, hml, hown, hts⟩ (k_X3_refresh l D ty td mi s.heap.size pp X pn rn tn en rf tp tq ea es hn kn on cu pu gw b_1 b_2 b_3 b_p su po hds kr kv kb oa ob hok hru hch t_4 ht_4) (cwV 0 hts gv_k_X10_walkByAll_0 rfl rfl rfl (by decide +kernel) ⟨(Nat.le_of_ble_eq_true rfl), (Nat.le_of_ble_eq_true rfl)⟩) (wm_V (wm_preSP hP hD hK hE hS hA [false, true, true, true, true, true, true, true, true, true, true, true, true, true, true, true, true, true, true] rfl) (va_recv (q0 := 7) (ci := 5) hK hP rfl rfl)) rfl rfl hl.1 rfl (lv_room (Nat.le_of_ble_eq_true rfl)) dX10_walkByAll_4 ⟨(Nat.le_of_ble_eq_true rfl), (Nat.le_of_ble_eq_true rfl)⟩) hS hA hP hD [false, true, true, true, true, true, true, true, true, true, true, true, true, true, true, true, true, true, true] rfl rfl (fun _ h => h) (fun  H locs hw hP hD hS => ?_)
  have hP : va_P D vwCl ((wW_k_X10_walkByAll ty X pn rn tn en rf tp tq ea es t_4.2.2.2.2.2.2.2.2.2.2.2.2.1 t_4.2.2.2.2.2.2.2.2.2.2.2.2.2.1 t_4.2.2.2.2.2.2.2.2.1 t_4.2.2.2.2.2.2.2.2.2.1 t_4.2.2.2.2.2.2.2.2.2.2.1 t_4.2.2.2.2.2.2.2.2.2.2.2.1 t_4.2.2.2.2.2.2.2.2.2.2.2.2.2.2.1 t_4.2.2.2.2.2.2.2.2.2.2.2.2.2.2.2.1 t_4.2.2.2.2.2.2.2.2.2.2.2.2.2.2.2.2.1 t_4.2.2.2.2.2.2.2.2.2.2.2.2.2.2.2.2.2 t_4.1 t_4.2.1 t_4.2.2.1 t_4.2.2.2.1 t_4.2.2.2.2.1 t_4.2.2.2.2.2.1 t_4.2.2.2.2.2.2.1 t_4.2.2.2.2.2.2.2.1 an ch cg fb mh ml ih lb ic cn c1 c2 c3 c4 c5 c6 wn w1 w2 w3 w4 w5 w6 ac obi sc ai ao) ++ pw ty pp) H := hP
  have hD : va_D A ((wW_k_X10_walkByAll ty X pn rn tn en rf tp tq ea es t_4.2.2.2.2.2.2.2.2.2.2.2.2.1 t_4.2.2.2.2.2.2.2.2.2.2.2.2.2.1 t_4.2.2.2.2.2.2.2.2.1 t_4.2.2.2.2.2.2.2.2.2.1 t_4.2.2.2.2.2.2.2.2.2.2.1 t_4.2.2.2.2.2.2.2.2.2.2.2.1 t_4.2.2.2.2.2.2.2.2.2.2.2.2.2.2.1 t_4.2.2.2.2.2.2.2.2.2.2.2.2.2.2.2.1 t_4.2.2.2.2.2.2.2.2.2.2.2.2.2.2.2.2.1 t_4.2.2.2.2.2.2.2.2.2.2.2.2.2.2.2.2.2 t_4.1 t_4.2.1 t_4.2.2.1 t_4.2.2.2.1 t_4.2.2.2.2.1 t_4.2.2.2.2.2.1 t_4.2.2.2.2.2.2.1 t_4.2.2.2.2.2.2.2.1 an ch cg fb mh ml ih lb ic cn c1 c2 c3 c4 c5 c6 wn w1 w2 w3 w4 w5 w6 ac obi sc ai ao) ++ pw ty pp) := hD
  refine W.widen (k := 0) (n := 0) (Nat.le_of_ble_eq_true rfl) (Nat.le_of_ble_eq_true rfl) ?_
  refine lv_aload_n hx hb dX10_walkByAll_7 rfl (lv_at hl 0 rfl) ?_
  refine va_get (D := D) (ci := 12) (v := .ref (X 8)) (C := RX10) (T := TX10) (N := 7) hx hb hts iv_k_X10_walkByAll_X10 hown hK hP 0 rfl rfl 1 (by decide) (hts (.fieldLink RX10 21 "AnswerFold" "grounding" "LAnswerFold$Grounding;") (by decide +kernel)) (fun _ h9 => h9) rfl dX10_walkByAll_8 ?_
  refine va_getN (D := D) (ci := 5) (v := .int t_4.2.2.2.2.2.2.2.2.1) (C := RX3) (T := TX3) (N := 16) hx hb hts iv_k_X10_walkByAll_X3 hown hK hP 7 rfl rfl 12 (by decide) (hE.at (.fieldLinkNest "AnswerFold" 263 "AnswerFold$Grounding" "openCount" "I" "AnswerFold") (by decide +kernel)) (fun _ h9 => h9) rfl dX10_walkByAll_11 ?_
  refine lv_bipush (v := 7) hx hb dX10_walkByAll_14 (by decide) ?_
  have J_32 : ∀ (_ : Unit), TT = m_k_X10_walkByAll_32 an ch cg fb mh ml ih lb ic cn c1 c2 c3 c4 c5 c6 wn w1 w2 w3 w4 w5 w6 ac obi sc t_4 → ∀ (H : Heap) (locs : List Loc), va_P D vwCl ((wW_k_X10_walkByAll ty X pn rn tn en rf tp tq ea es t_4.2.2.2.2.2.2.2.2.2.2.2.2.1 t_4.2.2.2.2.2.2.2.2.2.2.2.2.2.1 t_4.2.2.2.2.2.2.2.2.1 t_4.2.2.2.2.2.2.2.2.2.1 t_4.2.2.2.2.2.2.2.2.2.2.1 t_4.2.2.2.2.2.2.2.2.2.2.2.1 t_4.2.2.2.2.2.2.2.2.2.2.2.2.2.2.1 t_4.2.2.2.2.2.2.2.2.2.2.2.2.2.2.2.1 t_4.2.2.2.2.2.2.2.2.2.2.2.2.2.2.2.2.1 t_4.2.2.2.2.2.2.2.2.2.2.2.2.2.2.2.2.2 t_4.1 t_4.2.1 t_4.2.2.1 t_4.2.2.2.1 t_4.2.2.2.2.1 t_4.2.2.2.2.2.1 t_4.2.2.2.2.2.2.1 t_4.2.2.2.2.2.2.2.1 an ch cg fb mh ml ih lb ic cn c1 c2 c3 c4 c5 c6 wn w1 w2 w3 w4 w5 w6 ac obi sc ai ao) ++ pw ty pp) H → va_D A ((wW_k_X10_walkByAll ty X pn rn tn en rf tp tq ea es t_4.2.2.2.2.2.2.2.2.2.2.2.2.1 t_4.2.2.2.2.2.2.2.2.2.2.2.2.2.1 t_4.2.2.2.2.2.2.2.2.1 t_4.2.2.2.2.2.2.2.2.2.1 t_4.2.2.2.2.2.2.2.2.2.2.1 t_4.2.2.2.2.2.2.2.2.2.2.2.1 t_4.2.2.2.2.2.2.2.2.2.2.2.2.2.2.1 t_4.2.2.2.2.2.2.2.2.2.2.2.2.2.2.2.1 t_4.2.2.2.2.2.2.2.2.2.2.2.2.2.2.2.2.1 t_4.2.2.2.2.2.2.2.2.2.2.2.2.2.2.2.2.2 t_4.1 t_4.2.1 t_4.2.2.1 t_4.2.2.2.1 t_4.2.2.2.2.1 t_4.2.2.2.2.2.1 t_4.2.2.2.2.2.2.1 t_4.2.2.2.2.2.2.2.1 an ch cg fb mh ml ih lb ic cn c1 c2 c3 c4 c5 c6 wn w1 w2 w3 w4 w5 w6 ac obi sc ai ao) ++ pw ty pp) → va_S A s.heap H locs → ∀ ls : Array Slot, lv_has ls 1 [] → W p l e (headSpec vs_k_X10_walkByAll { frames := 7, cells := 1, slots := 6, locals := 171 }).room s m ([.ref (X 0)] : List Value).toArray below meth c H locs 0 0 (vx_MQ below (va_Qi (fun (r : Int32) (u : va_W) => (TT.1 = 0 ∧ r = TT.2.1 ∧ (u = ((wW_k_X10_walkByAll ty X pn rn tn en rf tp tq ea es TT.2.2.2.2.2.2.2.2.2.2.2.2.2.2.2.2.2.2.2.2.2.2.2.2.2.2.2.2.2.2.2.2.2.2.2.2.2.2.2.2.1 TT.2.2.2.2.2.2.2.2.2.2.2.2.2.2.2.2.2.2.2.2.2.2.2.2.2.2.2.2.2.2.2.2.2.2.2.2.2.2.2.2.2.1 TT.2.2.2.2.2.2.2.2.2.2.2.2.2.2.2.2.2.2.2.2.2.2.2.2.2.2.2.2.2.2.2.2.2.2.2.2.1 TT.2.2.2.2.2.2.2.2.2.2.2.2.2.2.2.2.2.2.2.2.2.2.2.2.2.2.2.2.2.2.2.2.2.2.2.2.2.1 TT.2.2.2.2.2.2.2.2.2.2.2.2.2.2.2.2.2.2.2.2.2.2.2.2.2.2.2.2.2.2.2.2.2.2.2.2.2.2.1 TT.2.2.2.2.2.2.2.2.2.2.2.2.2.2.2.2.2.2.2.2.2.2.2.2.2.2.2.2.2.2.2.2.2.2.2.2.2.2.2.1 TT.2.2.2.2.2.2.2.2.2.2.2.2.2.2.2.2.2.2.2.2.2.2.2.2.2.2.2.2.2.2.2.2.2.2.2.2.2.2.2.2.2.2.1 TT.2.2.2.2.2.2.2.2.2.2.2.2.2.2.2.2.2.2.2.2.2.2.2.2.2.2.2.2.2.2.2.2.2.2.2.2.2.2.2.2.2.2.2.1 TT.2.2.2.2.2.2.2.2.2.2.2.2.2.2.2.2.2.2.2.2.2.2.2.2.2.2.2.2.2.2.2.2.2.2.2.2.2.2.2.2.2.2.2.2.1 TT.2.2.2.2.2.2.2.2.2.2.2.2.2.2.2.2.2.2.2.2.2.2.2.2.2.2.2.2.2.2.2.2.2.2.2.2.2.2.2.2.2.2.2.2.2 TT.2.2.1 TT.2.2.2.1 TT.2.2.2.2.1 TT.2.2.2.2.2.1 TT.2.2.2.2.2.2.1 TT.2.2.2.2.2.2.2.1 TT.2.2.2.2.2.2.2.2.1 TT.2.2.2.2.2.2.2.2.2.1 TT.2.2.2.2.2.2.2.2.2.2.2.2.2.2.2.2.2.1 TT.2.2.2.2.2.2.2.2.2.2.2.2.2.2.2.2.2.2.1 TT.2.2.2.2.2.2.2.2.2.2.1 TT.2.2.2.2.2.2.2.2.2.2.2.1 TT.2.2.2.2.2.2.2.2.2.2.2.2.1 TT.2.2.2.2.2.2.2.2.2.2.2.2.2.1 TT.2.2.2.2.2.2.2.2.2.2.2.2.2.2.1 TT.2.2.2.2.2.2.2.2.2.2.2.2.2.2.2.1 TT.2.2.2.2.2.2.2.2.2.2.2.2.2.2.2.2.1 TT.2.2.2.2.2.2.2.2.2.2.2.2.2.2.2.2.2.2.2.1 TT.2.2.2.2.2.2.2.2.2.2.2.2.2.2.2.2.2.2.2.2.1 TT.2.2.2.2.2.2.2.2.2.2.2.2.2.2.2.2.2.2.2.2.2.1 TT.2.2.2.2.2.2.2.2.2.2.2.2.2.2.2.2.2.2.2.2.2.2.1 TT.2.2.2.2.2.2.2.2.2.2.2.2.2.2.2.2.2.2.2.2.2.2.2.1 TT.2.2.2.2.2.2.2.2.2.2.2.2.2.2.2.2.2.2.2.2.2.2.2.2.1 TT.2.2.2.2.2.2.2.2.2.2.2.2.2.2.2.2.2.2.2.2.2.2.2.2.2.1 TT.2.2.2.2.2.2.2.2.2.2.2.2.2.2.2.2.2.2.2.2.2.2.2.2.2.2.1 TT.2.2.2.2.2.2.2.2.2.2.2.2.2.2.2.2.2.2.2.2.2.2.2.2.2.2.2.1 TT.2.2.2.2.2.2.2.2.2.2.2.2.2.2.2.2.2.2.2.2.2.2.2.2.2.2.2.2.1 TT.2.2.2.2.2.2.2.2.2.2.2.2.2.2.2.2.2.2.2.2.2.2.2.2.2.2.2.2.2.1 TT.2.2.2.2.2.2.2.2.2.2.2.2.2.2.2.2.2.2.2.2.2.2.2.2.2.2.2.2.2.2.1 TT.2.2.2.2.2.2.2.2.2.2.2.2.2.2.2.2.2.2.2.2.2.2.2.2.2.2.2.2.2.2.2.1 TT.2.2.2.2.2.2.2.2.2.2.2.2.2.2.2.2.2.2.2.2.2.2.2.2.2.2.2.2.2.2.2.2.1 TT.2.2.2.2.2.2.2.2.2.2.2.2.2.2.2.2.2.2.2.2.2.2.2.2.2.2.2.2.2.2.2.2.2.1 TT.2.2.2.2.2.2.2.2.2.2.2.2.2.2.2.2.2.2.2.2.2.2.2.2.2.2.2.2.2.2.2.2.2.2.1 TT.2.2.2.2.2.2.2.2.2.2.2.2.2.2.2.2.2.2.2.2.2.2.2.2.2.2.2.2.2.2.2.2.2.2.2.1 ai ao) ++ pw ty pp)))) (wq_B D A) A) (vx_X (fun u : String × va_W => (TT.1 = 4 ∧ u = ("java/lang/UnsupportedOperationException", ((wW_k_X10_walkByAll ty X pn rn tn en rf tp tq ea es TT.2.2.2.2.2.2.2.2.2.2.2.2.2.2.2.2.2.2.2.2.2.2.2.2.2.2.2.2.2.2.2.2.2.2.2.2.2.2.2.2.1 TT.2.2.2.2.2.2.2.2.2.2.2.2.2.2.2.2.2.2.2.2.2.2.2.2.2.2.2.2.2.2.2.2.2.2.2.2.2.2.2.2.2.1 TT.2.2.2.2.2.2.2.2.2.2.2.2.2.2.2.2.2.2.2.2.2.2.2.2.2.2.2.2.2.2.2.2.2.2.2.2.1 TT.2.2.2.2.2.2.2.2.2.2.2.2.2.2.2.2.2.2.2.2.2.2.2.2.2.2.2.2.2.2.2.2.2.2.2.2.2.1 TT.2.2.2.2.2.2.2.2.2.2.2.2.2.2.2.2.2.2.2.2.2.2.2.2.2.2.2.2.2.2.2.2.2.2.2.2.2.2.1 TT.2.2.2.2.2.2.2.2.2.2.2.2.2.2.2.2.2.2.2.2.2.2.2.2.2.2.2.2.2.2.2.2.2.2.2.2.2.2.2.1 TT.2.2.2.2.2.2.2.2.2.2.2.2.2.2.2.2.2.2.2.2.2.2.2.2.2.2.2.2.2.2.2.2.2.2.2.2.2.2.2.2.2.2.1 TT.2.2.2.2.2.2.2.2.2.2.2.2.2.2.2.2.2.2.2.2.2.2.2.2.2.2.2.2.2.2.2.2.2.2.2.2.2.2.2.2.2.2.2.1 TT.2.2.2.2.2.2.2.2.2.2.2.2.2.2.2.2.2.2.2.2.2.2.2.2.2.2.2.2.2.2.2.2.2.2.2.2.2.2.2.2.2.2.2.2.1 TT.2.2.2.2.2.2.2.2.2.2.2.2.2.2.2.2.2.2.2.2.2.2.2.2.2.2.2.2.2.2.2.2.2.2.2.2.2.2.2.2.2.2.2.2.2 TT.2.2.1 TT.2.2.2.1 TT.2.2.2.2.1 TT.2.2.2.2.2.1 TT.2.2.2.2.2.2.1 TT.2.2.2.2.2.2.2.1 TT.2.2.2.2.2.2.2.2.1 TT.2.2.2.2.2.2.2.2.2.1 TT.2.2.2.2.2.2.2.2.2.2.2.2.2.2.2.2.2.1 TT.2.2.2.2.2.2.2.2.2.2.2.2.2.2.2.2.2.2.1 TT.2.2.2.2.2.2.2.2.2.2.1 TT.2.2.2.2.2.2.2.2.2.2.2.1 TT.2.2.2.2.2.2.2.2.2.2.2.2.1 TT.2.2.2.2.2.2.2.2.2.2.2.2.2.1 TT.2.2.2.2.2.2.2.2.2.2.2.2.2.2.1 TT.2.2.2.2.2.2.2.2.2.2.2.2.2.2.2.1 TT.2.2.2.2.2.2.2.2.2.2.2.2.2.2.2.2.1 TT.2.2.2.2.2.2.2.2.2.2.2.2.2.2.2.2.2.2.2.1 TT.2.2.2.2.2.2.2.2.2.2.2.2.2.2.2.2.2.2.2.2.1 TT.2.2.2.2.2.2.2.2.2.2.2.2.2.2.2.2.2.2.2.2.2.1 TT.2.2.2.2.2.2.2.2.2.2.2.2.2.2.2.2.2.2.2.2.2.2.1 TT.2.2.2.2.2.2.2.2.2.2.2.2.2.2.2.2.2.2.2.2.2.2.2.1 TT.2.2.2.2.2.2.2.2.2.2.2.2.2.2.2.2.2.2.2.2.2.2.2.2.1 TT.2.2.2.2.2.2.2.2.2.2.2.2.2.2.2.2.2.2.2.2.2.2.2.2.2.1 TT.2.2.2.2.2.2.2.2.2.2.2.2.2.2.2.2.2.2.2.2.2.2.2.2.2.2.1 TT.2.2.2.2.2.2.2.2.2.2.2.2.2.2.2.2.2.2.2.2.2.2.2.2.2.2.2.1 TT.2.2.2.2.2.2.2.2.2.2.2.2.2.2.2.2.2.2.2.2.2.2.2.2.2.2.2.2.1 TT.2.2.2.2.2.2.2.2.2.2.2.2.2.2.2.2.2.2.2.2.2.2.2.2.2.2.2.2.2.1 TT.2.2.2.2.2.2.2.2.2.2.2.2.2.2.2.2.2.2.2.2.2.2.2.2.2.2.2.2.2.2.1 TT.2.2.2.2.2.2.2.2.2.2.2.2.2.2.2.2.2.2.2.2.2.2.2.2.2.2.2.2.2.2.2.1 TT.2.2.2.2.2.2.2.2.2.2.2.2.2.2.2.2.2.2.2.2.2.2.2.2.2.2.2.2.2.2.2.2.1 TT.2.2.2.2.2.2.2.2.2.2.2.2.2.2.2.2.2.2.2.2.2.2.2.2.2.2.2.2.2.2.2.2.2.1 TT.2.2.2.2.2.2.2.2.2.2.2.2.2.2.2.2.2.2.2.2.2.2.2.2.2.2.2.2.2.2.2.2.2.2.1 TT.2.2.2.2.2.2.2.2.2.2.2.2.2.2.2.2.2.2.2.2.2.2.2.2.2.2.2.2.2.2.2.2.2.2.2.1 ai ao) ++ pw ty pp)))) (wq_BX D A) A) ([.ref (X 0)] : List Value).toArray s 1 6 A) (F0 m 32 ls []) := by
    intro _ hT  H locs hP hD hS ls hl
    rw [m_k_X10_walkByAll_32] at hT
    obtain ⟨sa, hsa⟩ := hE.st 294 "more than 7 open atoms, or 300 instances" (by decide +kernel)
    exact vx_throwSW (own := RX10) (cls := "java/lang/UnsupportedOperationException") (text := "more than 7 open atoms, or 300 instances") (names := ["java/lang/RuntimeException", "java/lang/Exception"]) (ik := 272) (is := 294) (ic := 276) (sa := sa) (A := A) hx hb hl9 hown (by decide +kernel) (by decide +kernel) (hts (.classLink RX10 272 "java/lang/UnsupportedOperationException") (by decide +kernel)) (hts (.initialized "java/lang/UnsupportedOperationException") (by decide +kernel)) hsa (wq_hat hE hts ix_k_X10_walkByAll_276 (by decide +kernel) (by decide +kernel)) (by decide +kernel) hE.zu hE.zs hS (hl.1.trans hml.symm) dX10_walkByAll_32 dX10_walkByAll_35 dX10_walkByAll_36 dX10_walkByAll_39 dX10_walkByAll_42 (fun x hx => (hEx x hx).elim) (Nat.le_of_ble_eq_true rfl) (Nat.le_of_ble_eq_true rfl) (Nat.le_of_ble_eq_true rfl) (Nat.le_of_ble_eq_true rfl) hlocks (fun t ha hz hk => wq_thrW (W := ((wW_k_X10_walkByAll ty X pn rn tn en rf tp tq ea es t_4.2.2.2.2.2.2.2.2.2.2.2.2.1 t_4.2.2.2.2.2.2.2.2.2.2.2.2.2.1 t_4.2.2.2.2.2.2.2.2.1 t_4.2.2.2.2.2.2.2.2.2.1 t_4.2.2.2.2.2.2.2.2.2.2.1 t_4.2.2.2.2.2.2.2.2.2.2.2.1 t_4.2.2.2.2.2.2.2.2.2.2.2.2.2.2.1 t_4.2.2.2.2.2.2.2.2.2.2.2.2.2.2.2.1 t_4.2.2.2.2.2.2.2.2.2.2.2.2.2.2.2.2.1 t_4.2.2.2.2.2.2.2.2.2.2.2.2.2.2.2.2.2 t_4.1 t_4.2.1 t_4.2.2.1 t_4.2.2.2.1 t_4.2.2.2.2.1 t_4.2.2.2.2.2.1 t_4.2.2.2.2.2.2.1 t_4.2.2.2.2.2.2.2.1 an ch cg fb mh ml ih lb ic cn c1 c2 c3 c4 c5 c6 wn w1 w2 w3 w4 w5 w6 ac obi sc ai ao) ++ pw ty pp)) hS hP hD (by exact ⟨(by rw [hT]), (by first | rw [hT] | rfl)⟩) hz hk) hS.2.2 (Nat.le_of_ble_eq_true rfl) (Nat.le_of_ble_eq_true rfl)
  refine lv_icmp_gt (tgt := 32) hx hb dX10_walkByAll_16 (by decide) (fun c_3 => ?_) (fun c_3 => ?_)
  · rw [if_pos c_3] at hT
    exact J_32 () hT _ _ hP hD hS _ (lv_sub hl [] rfl)
  · rw [if_neg c_3] at hT
    refine lv_aload_n hx hb dX10_walkByAll_19 rfl (lv_at hl 0 rfl) ?_
    refine va_get (D := D) (ci := 12) (v := .ref (X 8)) (C := RX10) (T := TX10) (N := 7) hx hb hts iv_k_X10_walkByAll_X10 hown hK hP 0 rfl rfl 1 (by decide) (hts (.fieldLink RX10 21 "AnswerFold" "grounding" "LAnswerFold$Grounding;") (by decide +kernel)) (fun _ h9 => h9) rfl dX10_walkByAll_20 ?_
    refine va_getN (D := D) (ci := 5) (v := .int t_4.2.2.2.2.2.2.2.2.2.2.2.2.2.1) (C := RX3) (T := TX3) (N := 16) hx hb hts iv_k_X10_walkByAll_X3 hown hK hP 7 rfl rfl 9 (by decide) (hE.at (.fieldLinkNest "AnswerFold" 269 "AnswerFold$Grounding" "keptCount" "I" "AnswerFold") (by decide +kernel)) (fun _ h9 => h9) rfl dX10_walkByAll_23 ?_
    refine lv_sipush (v := 300) hx hb dX10_walkByAll_26 (by decide) ?_
    refine lv_icmp_le (tgt := 43) hx hb dX10_walkByAll_29 (by decide) (fun c_4 => ?_) (fun c_4 => ?_)
    · rw [if_pos c_4] at hT
      refine lv_aload_n hx hb dX10_walkByAll_43 rfl (lv_at hl 0 rfl) ?_
      refine va_get (D := D) (ci := 12) (v := .ref (X 20)) (C := RX10) (T := TX10) (N := 7) hx hb hts iv_k_X10_walkByAll_X10 hown hK hP 0 rfl rfl 2 (by decide) (hts (.fieldLink RX10 30 "AnswerFold" "solver" "LAnswerFold$Solver;") (by decide +kernel)) (fun _ h9 => h9) rfl dX10_walkByAll_44 ?_
      refine lv_aload_n hx hb dX10_walkByAll_47 rfl (lv_at hl 0 rfl) ?_
      refine va_get (D := D) (ci := 12) (v := .ref (X 41)) (C := RX10) (T := TX10) (N := 7) hx hb hts iv_k_X10_walkByAll_X10 hown hK hP 0 rfl rfl 4 (by decide) (hts (.fieldLink RX10 46 "AnswerFold" "assumedIn" "LAnswerFold$AtomSet;") (by decide +kernel)) (fun _ h9 => h9) rfl dX10_walkByAll_48 ?_
      refine lv_aload_n hx hb dX10_walkByAll_51 rfl (lv_at hl 0 rfl) ?_
      refine va_get (D := D) (ci := 12) (v := .ref (X 43)) (C := RX10) (T := TX10) (N := 7) hx hb hts iv_k_X10_walkByAll_X10 hown hK hP 0 rfl rfl 5 (by decide) (hts (.fieldLink RX10 50 "AnswerFold" "assumedOut" "LAnswerFold$AtomSet;") (by decide +kernel)) (fun _ h9 => h9) rfl dX10_walkByAll_52 ?_
      obtain ⟨t_55, ht_55⟩ : ∃ t, t = m_k_X9_prepare pp rn en rf ea es t_4.2.2.2.2.2.2.2.2.2.2.2.2.1 t_4.2.2.2.2.2.2.2.2.2.2.2.2.2.1 t_4.2.2.2.2.2.2.2.2.1 t_4.2.2.2.2.2.2.2.2.2.2.2.2.2.2.1 t_4.2.2.2.2.2.2.2.2.2.2.2.2.2.2.2.1 t_4.2.2.2.2.2.2.2.2.2.2.2.2.2.2.2.2.1 t_4.2.2.2.2.2.2.2.2.2.2.2.2.2.2.2.2.2 t_4.1 t_4.2.1 t_4.2.2.1 t_4.2.2.2.1 t_4.2.2.2.2.1 t_4.2.2.2.2.2.2.1 t_4.2.2.2.2.2.2.2.1 ch cg fb lb ic cn c1 c2 c3 c4 c5 c6 wn w1 w2 w3 w4 w5 w6 obi sc ai ao := ⟨_, rfl⟩
      rw [lE_eq ht_55] at hT
      refine wq_vPW (wc := (wW_k_X9_prepare ty X pn rn tn en rf ea es t_4.2.2.2.2.2.2.2.2.2.2.2.2.1 t_4.2.2.2.2.2.2.2.2.2.2.2.2.2.1 t_4.2.2.2.2.2.2.2.2.1 t_4.2.2.2.2.2.2.2.2.2.1 t_4.2.2.2.2.2.2.2.2.2.2.1 t_4.2.2.2.2.2.2.2.2.2.2.2.1 t_4.2.2.2.2.2.2.2.2.2.2.2.2.2.2.1 t_4.2.2.2.2.2.2.2.2.2.2.2.2.2.2.2.1 t_4.2.2.2.2.2.2.2.2.2.2.2.2.2.2.2.2.1 t_4.2.2.2.2.2.2.2.2.2.2.2.2.2.2.2.2.2 t_4.1 t_4.2.1 t_4.2.2.1 t_4.2.2.2.1 t_4.2.2.2.2.1 t_4.2.2.2.2.2.2.1 t_4.2.2.2.2.2.2.2.1 an ch cg fb mh ml ih lb ic cn c1 c2 c3 c4 c5 c6 wn w1 w2 w3 w4 w5 w6 obi sc ai ao)) (pl := pw ty pp) (ux := (wW_k_X9_prepare ty X pn rn tn en rf ea es t_55.2.2.2.2.2.2.2.2.2.2.2.2.2.2.2.2.2.2.2.2.2.2.2.2.2.1 t_4.2.2.2.2.2.2.2.2.2.2.2.2.2.1 t_4.2.2.2.2.2.2.2.2.1 t_4.2.2.2.2.2.2.2.2.2.1 t_4.2.2.2.2.2.2.2.2.2.2.1 t_4.2.2.2.2.2.2.2.2.2.2.2.1 t_55.2.2.2.2.2.2.2.2.2.2.2.2.2.2.2.2.2.2.2.2.2.2.2.2.2.2.1 t_55.2.2.2.2.2.2.2.2.2.2.2.2.2.2.2.2.2.2.2.2.2.2.2.2.2.2.2.1 t_55.2.2.2.2.2.2.2.2.2.2.2.2.2.2.2.2.2.2.2.2.2.2.2.2.2.2.2.2.1 t_55.2.2.2.2.2.2.2.2.2.2.2.2.2.2.2.2.2.2.2.2.2.2.2.2.2.2.2.2.2 t_4.1 t_4.2.1 t_55.1 t_4.2.2.2.1 t_4.2.2.2.2.1 t_4.2.2.2.2.2.2.1 t_4.2.2.2.2.2.2.2.1 an t_55.2.2.2.2.2.2.2.2.1 t_55.2.1 t_55.2.2.1 t_55.2.2.2.1 t_55.2.2.2.2.1 t_55.2.2.2.2.2.1 t_55.2.2.2.2.2.2.1 t_55.2.2.2.2.2.2.2.1 t_55.2.2.2.2.2.2.2.2.2.1 t_55.2.2.2.2.2.2.2.2.2.2.1 t_55.2.2.2.2.2.2.2.2.2.2.2.1 t_55.2.2.2.2.2.2.2.2.2.2.2.2.1 t_55.2.2.2.2.2.2.2.2.2.2.2.2.2.1 t_55.2.2.2.2.2.2.2.2.2.2.2.2.2.2.1 t_55.2.2.2.2.2.2.2.2.2.2.2.2.2.2.2.1 t_55.2.2.2.2.2.2.2.2.2.2.2.2.2.2.2.2.1 t_55.2.2.2.2.2.2.2.2.2.2.2.2.2.2.2.2.2.1 t_55.2.2.2.2.2.2.2.2.2.2.2.2.2.2.2.2.2.2.1 t_55.2.2.2.2.2.2.2.2.2.2.2.2.2.2.2.2.2.2.2.1 t_55.2.2.2.2.2.2.2.2.2.2.2.2.2.2.2.2.2.2.2.2.1 t_55.2.2.2.2.2.2.2.2.2.2.2.2.2.2.2.2.2.2.2.2.2.1 t_55.2.2.2.2.2.2.2.2.2.2.2.2.2.2.2.2.2.2.2.2.2.2.1 t_55.2.2.2.2.2.2.2.2.2.2.2.2.2.2.2.2.2.2.2.2.2.2.2.1 t_55.2.2.2.2.2.2.2.2.2.2.2.2.2.2.2.2.2.2.2.2.2.2.2.2.1 ai ao)) (va_runV (As := [.ref (X 41), .ref (X 43)]) (rest := []) ⟨hx, hb, hml, hown, hts⟩ (k_X9_prepare l D ty td mi H.size pp X pn rn tn en rf ea es t_4.2.2.2.2.2.2.2.2.2.2.2.2.1 t_4.2.2.2.2.2.2.2.2.2.2.2.2.2.1 t_4.2.2.2.2.2.2.2.2.1 t_4.2.2.2.2.2.2.2.2.2.1 t_4.2.2.2.2.2.2.2.2.2.2.1 t_4.2.2.2.2.2.2.2.2.2.2.2.1 t_4.2.2.2.2.2.2.2.2.2.2.2.2.2.2.1 t_4.2.2.2.2.2.2.2.2.2.2.2.2.2.2.2.1 t_4.2.2.2.2.2.2.2.2.2.2.2.2.2.2.2.2.1 t_4.2.2.2.2.2.2.2.2.2.2.2.2.2.2.2.2.2 t_4.1 t_4.2.1 t_4.2.2.1 t_4.2.2.2.1 t_4.2.2.2.2.1 t_4.2.2.2.2.2.2.1 t_4.2.2.2.2.2.2.2.1 an ch cg fb mh ml ih lb ic cn c1 c2 c3 c4 c5 c6 wn w1 w2 w3 w4 w5 w6 obi sc ai ao hok hru hch t_55 ht_55) (cwV 2 hts gv_k_X10_walkByAll_1 rfl rfl rfl (by decide +kernel) ⟨(Nat.le_of_ble_eq_true rfl), (Nat.le_of_ble_eq_true rfl)⟩) (wm_V (wm_preSP hP hD hK hE hS hA [false, true, true, false, false, true, true, true, true, true, true, true, true, true, true, true, false, true, true, true, true, true, true, true, true, true, true, true, true, true, true, true, true, true, false, true, true, true, true, true, true] rfl) (va_recv (q0 := 19) (ci := 11) hK hP rfl rfl)) rfl rfl hl.1 rfl (lv_room (Nat.le_of_ble_eq_true rfl)) dX10_walkByAll_55 ⟨(Nat.le_of_ble_eq_true rfl), (Nat.le_of_ble_eq_true rfl)⟩) hS hA hP hD [false, true, true, false, false, true, true, true, true, true, true, true, true, true, true, true, false, true, true, true, true, true, true, true, true, true, true, true, true, true, true, true, true, true, false, true, true, true, true, true, true] rfl rfl (fun _ h => h) (fun  H locs hw hP hD hS => ?_)
      have hP : va_P D vwCl ((wW_k_X10_walkByAll ty X pn rn tn en rf tp tq ea es t_55.2.2.2.2.2.2.2.2.2.2.2.2.2.2.2.2.2.2.2.2.2.2.2.2.2.1 t_4.2.2.2.2.2.2.2.2.2.2.2.2.2.1 t_4.2.2.2.2.2.2.2.2.1 t_4.2.2.2.2.2.2.2.2.2.1 t_4.2.2.2.2.2.2.2.2.2.2.1 t_4.2.2.2.2.2.2.2.2.2.2.2.1 t_55.2.2.2.2.2.2.2.2.2.2.2.2.2.2.2.2.2.2.2.2.2.2.2.2.2.2.1 t_55.2.2.2.2.2.2.2.2.2.2.2.2.2.2.2.2.2.2.2.2.2.2.2.2.2.2.2.1 t_55.2.2.2.2.2.2.2.2.2.2.2.2.2.2.2.2.2.2.2.2.2.2.2.2.2.2.2.2.1 t_55.2.2.2.2.2.2.2.2.2.2.2.2.2.2.2.2.2.2.2.2.2.2.2.2.2.2.2.2.2 t_4.1 t_4.2.1 t_55.1 t_4.2.2.2.1 t_4.2.2.2.2.1 t_4.2.2.2.2.2.1 t_4.2.2.2.2.2.2.1 t_4.2.2.2.2.2.2.2.1 an t_55.2.2.2.2.2.2.2.2.1 t_55.2.1 t_55.2.2.1 t_55.2.2.2.1 t_55.2.2.2.2.1 t_55.2.2.2.2.2.1 t_55.2.2.2.2.2.2.1 t_55.2.2.2.2.2.2.2.1 t_55.2.2.2.2.2.2.2.2.2.1 t_55.2.2.2.2.2.2.2.2.2.2.1 t_55.2.2.2.2.2.2.2.2.2.2.2.1 t_55.2.2.2.2.2.2.2.2.2.2.2.2.1 t_55.2.2.2.2.2.2.2.2.2.2.2.2.2.1 t_55.2.2.2.2.2.2.2.2.2.2.2.2.2.2.1 t_55.2.2.2.2.2.2.2.2.2.2.2.2.2.2.2.1 t_55.2.2.2.2.2.2.2.2.2.2.2.2.2.2.2.2.1 t_55.2.2.2.2.2.2.2.2.2.2.2.2.2.2.2.2.2.1 t_55.2.2.2.2.2.2.2.2.2.2.2.2.2.2.2.2.2.2.1 t_55.2.2.2.2.2.2.2.2.2.2.2.2.2.2.2.2.2.2.2.1 t_55.2.2.2.2.2.2.2.2.2.2.2.2.2.2.2.2.2.2.2.2.1 t_55.2.2.2.2.2.2.2.2.2.2.2.2.2.2.2.2.2.2.2.2.2.1 t_55.2.2.2.2.2.2.2.2.2.2.2.2.2.2.2.2.2.2.2.2.2.2.1 ac t_55.2.2.2.2.2.2.2.2.2.2.2.2.2.2.2.2.2.2.2.2.2.2.2.1 t_55.2.2.2.2.2.2.2.2.2.2.2.2.2.2.2.2.2.2.2.2.2.2.2.2.1 ai ao) ++ pw ty pp) H := hP
      have hD : va_D A ((wW_k_X10_walkByAll ty X pn rn tn en rf tp tq ea es t_55.2.2.2.2.2.2.2.2.2.2.2.2.2.2.2.2.2.2.2.2.2.2.2.2.2.1 t_4.2.2.2.2.2.2.2.2.2.2.2.2.2.1 t_4.2.2.2.2.2.2.2.2.1 t_4.2.2.2.2.2.2.2.2.2.1 t_4.2.2.2.2.2.2.2.2.2.2.1 t_4.2.2.2.2.2.2.2.2.2.2.2.1 t_55.2.2.2.2.2.2.2.2.2.2.2.2.2.2.2.2.2.2.2.2.2.2.2.2.2.2.1 t_55.2.2.2.2.2.2.2.2.2.2.2.2.2.2.2.2.2.2.2.2.2.2.2.2.2.2.2.1 t_55.2.2.2.2.2.2.2.2.2.2.2.2.2.2.2.2.2.2.2.2.2.2.2.2.2.2.2.2.1 t_55.2.2.2.2.2.2.2.2.2.2.2.2.2.2.2.2.2.2.2.2.2.2.2.2.2.2.2.2.2 t_4.1 t_4.2.1 t_55.1 t_4.2.2.2.1 t_4.2.2.2.2.1 t_4.2.2.2.2.2.1 t_4.2.2.2.2.2.2.1 t_4.2.2.2.2.2.2.2.1 an t_55.2.2.2.2.2.2.2.2.1 t_55.2.1 t_55.2.2.1 t_55.2.2.2.1 t_55.2.2.2.2.1 t_55.2.2.2.2.2.1 t_55.2.2.2.2.2.2.1 t_55.2.2.2.2.2.2.2.1 t_55.2.2.2.2.2.2.2.2.2.1 t_55.2.2.2.2.2.2.2.2.2.2.1 t_55.2.2.2.2.2.2.2.2.2.2.2.1 t_55.2.2.2.2.2.2.2.2.2.2.2.2.1 t_55.2.2.2.2.2.2.2.2.2.2.2.2.2.1 t_55.2.2.2.2.2.2.2.2.2.2.2.2.2.2.1 t_55.2.2.2.2.2.2.2.2.2.2.2.2.2.2.2.1 t_55.2.2.2.2.2.2.2.2.2.2.2.2.2.2.2.2.1 t_55.2.2.2.2.2.2.2.2.2.2.2.2.2.2.2.2.2.1 t_55.2.2.2.2.2.2.2.2.2.2.2.2.2.2.2.2.2.2.1 t_55.2.2.2.2.2.2.2.2.2.2.2.2.2.2.2.2.2.2.2.1 t_55.2.2.2.2.2.2.2.2.2.2.2.2.2.2.2.2.2.2.2.2.1 t_55.2.2.2.2.2.2.2.2.2.2.2.2.2.2.2.2.2.2.2.2.2.1 t_55.2.2.2.2.2.2.2.2.2.2.2.2.2.2.2.2.2.2.2.2.2.2.1 ac t_55.2.2.2.2.2.2.2.2.2.2.2.2.2.2.2.2.2.2.2.2.2.2.2.1 t_55.2.2.2.2.2.2.2.2.2.2.2.2.2.2.2.2.2.2.2.2.2.2.2.2.1 ai ao) ++ pw ty pp) := hD
      refine W.widen (k := 0) (n := 0) (Nat.le_of_ble_eq_true rfl) (Nat.le_of_ble_eq_true rfl) ?_
      refine lv_aload_n hx hb dX10_walkByAll_58 rfl (lv_at hl 0 rfl) ?_
      refine va_get (D := D) (ci := 12) (v := .ref (X 20)) (C := RX10) (T := TX10) (N := 7) hx hb hts iv_k_X10_walkByAll_X10 hown hK hP 0 rfl rfl 2 (by decide) (hts (.fieldLink RX10 30 "AnswerFold" "solver" "LAnswerFold$Solver;") (by decide +kernel)) (fun _ h9 => h9) rfl dX10_walkByAll_59 ?_
      obtain ⟨t_62, ht_62⟩ : ∃ t, t = m_k_X9_countByAll pp rn rf t_4.2.2.2.2.2.2.2.2.1 an t_55.2.2.2.2.2.2.2.2.1 t_55.2.1 t_55.2.2.1 t_55.2.2.2.1 t_55.2.2.2.2.1 t_55.2.2.2.2.2.1 t_55.2.2.2.2.2.2.1 t_55.2.2.2.2.2.2.2.2.2.1 t_55.2.2.2.2.2.2.2.2.2.2.1 t_55.2.2.2.2.2.2.2.2.2.2.2.1 t_55.2.2.2.2.2.2.2.2.2.2.2.2.1 t_55.2.2.2.2.2.2.2.2.2.2.2.2.2.1 t_55.2.2.2.2.2.2.2.2.2.2.2.2.2.2.1 t_55.2.2.2.2.2.2.2.2.2.2.2.2.2.2.2.1 ac t_55.2.2.2.2.2.2.2.2.2.2.2.2.2.2.2.2.2.2.2.2.2.2.2.1 t_55.2.2.2.2.2.2.2.2.2.2.2.2.2.2.2.2.2.2.2.2.2.2.2.2.1 := ⟨_, rfl⟩
      rw [lE_eq ht_62] at hT
      refine wq_iPW (wc := (wW_k_X9_countByAll ty X pn rn tn en rf t_55.2.2.2.2.2.2.2.2.2.2.2.2.2.2.2.2.2.2.2.2.2.2.2.2.2.1 t_4.2.2.2.2.2.2.2.2.2.2.2.2.2.1 t_4.2.2.2.2.2.2.2.2.1 t_4.2.2.2.2.2.2.2.2.2.1 t_4.2.2.2.2.2.2.2.2.2.2.1 t_4.2.2.2.2.2.2.2.2.2.2.2.1 an t_55.2.2.2.2.2.2.2.2.1 t_55.2.1 t_55.2.2.1 t_55.2.2.2.1 t_55.2.2.2.2.1 t_55.2.2.2.2.2.1 t_55.2.2.2.2.2.2.1 t_55.2.2.2.2.2.2.2.1 t_55.2.2.2.2.2.2.2.2.2.1 t_55.2.2.2.2.2.2.2.2.2.2.1 t_55.2.2.2.2.2.2.2.2.2.2.2.1 t_55.2.2.2.2.2.2.2.2.2.2.2.2.1 t_55.2.2.2.2.2.2.2.2.2.2.2.2.2.1 t_55.2.2.2.2.2.2.2.2.2.2.2.2.2.2.1 t_55.2.2.2.2.2.2.2.2.2.2.2.2.2.2.2.1 ac t_55.2.2.2.2.2.2.2.2.2.2.2.2.2.2.2.2.2.2.2.2.2.2.2.1 t_55.2.2.2.2.2.2.2.2.2.2.2.2.2.2.2.2.2.2.2.2.2.2.2.2.1)) (pl := pw ty pp) (ux := (wW_k_X9_countByAll ty X pn rn tn en rf t_55.2.2.2.2.2.2.2.2.2.2.2.2.2.2.2.2.2.2.2.2.2.2.2.2.2.1 t_4.2.2.2.2.2.2.2.2.2.2.2.2.2.1 t_4.2.2.2.2.2.2.2.2.1 t_4.2.2.2.2.2.2.2.2.2.1 t_4.2.2.2.2.2.2.2.2.2.2.1 t_4.2.2.2.2.2.2.2.2.2.2.2.1 t_62.2.2.1 t_55.2.2.2.2.2.2.2.2.1 t_55.2.1 t_55.2.2.1 t_55.2.2.2.1 t_55.2.2.2.2.1 t_55.2.2.2.2.2.1 t_62.2.1 t_55.2.2.2.2.2.2.2.1 t_55.2.2.2.2.2.2.2.2.2.1 t_55.2.2.2.2.2.2.2.2.2.2.1 t_55.2.2.2.2.2.2.2.2.2.2.2.1 t_55.2.2.2.2.2.2.2.2.2.2.2.2.1 t_55.2.2.2.2.2.2.2.2.2.2.2.2.2.1 t_55.2.2.2.2.2.2.2.2.2.2.2.2.2.2.1 t_55.2.2.2.2.2.2.2.2.2.2.2.2.2.2.2.1 t_62.2.2.2 t_55.2.2.2.2.2.2.2.2.2.2.2.2.2.2.2.2.2.2.2.2.2.2.2.1 t_55.2.2.2.2.2.2.2.2.2.2.2.2.2.2.2.2.2.2.2.2.2.2.2.2.1)) (va_runV (As := []) (rest := []) ⟨hx, hb, hml, hown, hts⟩ (k_X9_countByAll l D ty td mi H.size pp X pn rn tn en rf t_55.2.2.2.2.2.2.2.2.2.2.2.2.2.2.2.2.2.2.2.2.2.2.2.2.2.1 t_4.2.2.2.2.2.2.2.2.2.2.2.2.2.1 t_4.2.2.2.2.2.2.2.2.1 t_4.2.2.2.2.2.2.2.2.2.1 t_4.2.2.2.2.2.2.2.2.2.2.1 t_4.2.2.2.2.2.2.2.2.2.2.2.1 an t_55.2.2.2.2.2.2.2.2.1 t_55.2.1 t_55.2.2.1 t_55.2.2.2.1 t_55.2.2.2.2.1 t_55.2.2.2.2.2.1 t_55.2.2.2.2.2.2.1 t_55.2.2.2.2.2.2.2.1 t_55.2.2.2.2.2.2.2.2.2.1 t_55.2.2.2.2.2.2.2.2.2.2.1 t_55.2.2.2.2.2.2.2.2.2.2.2.1 t_55.2.2.2.2.2.2.2.2.2.2.2.2.1 t_55.2.2.2.2.2.2.2.2.2.2.2.2.2.1 t_55.2.2.2.2.2.2.2.2.2.2.2.2.2.2.1 t_55.2.2.2.2.2.2.2.2.2.2.2.2.2.2.2.1 ac t_55.2.2.2.2.2.2.2.2.2.2.2.2.2.2.2.2.2.2.2.2.2.2.2.1 t_55.2.2.2.2.2.2.2.2.2.2.2.2.2.2.2.2.2.2.2.2.2.2.2.2.1 hok hru t_62 ht_62) (cwV 0 hts gv_k_X10_walkByAll_2 rfl rfl rfl (by decide +kernel) ⟨(Nat.le_of_ble_eq_true rfl), (Nat.le_of_ble_eq_true rfl)⟩) (wm_V (wm_preSP hP hD hK hE hS hA [false, true, true, false, false, false, false, true, false, false, false, false, false, false, false, false, false, false, false, true, true, true, true, true, true, true, true, false, false, false, false, false, false, false, true, true, true] rfl) (va_recv (q0 := 19) (ci := 11) hK hP rfl rfl)) rfl rfl hl.1 rfl (lv_room (Nat.le_of_ble_eq_true rfl)) dX10_walkByAll_62 ⟨(Nat.le_of_ble_eq_true rfl), (Nat.le_of_ble_eq_true rfl)⟩) hS hA hP hD [false, true, true, false, false, false, false, true, false, false, false, false, false, false, false, false, false, false, false, true, true, true, true, true, true, true, true, false, false, false, false, false, false, false, true, true, true] rfl rfl (fun _ _ h => h.2) (fun r H locs hw hP hD hS => ?_)
      obtain ⟨rfl, -⟩ := hw
      have hP : va_P D vwCl ((wW_k_X10_walkByAll ty X pn rn tn en rf tp tq ea es t_55.2.2.2.2.2.2.2.2.2.2.2.2.2.2.2.2.2.2.2.2.2.2.2.2.2.1 t_4.2.2.2.2.2.2.2.2.2.2.2.2.2.1 t_4.2.2.2.2.2.2.2.2.1 t_4.2.2.2.2.2.2.2.2.2.1 t_4.2.2.2.2.2.2.2.2.2.2.1 t_4.2.2.2.2.2.2.2.2.2.2.2.1 t_55.2.2.2.2.2.2.2.2.2.2.2.2.2.2.2.2.2.2.2.2.2.2.2.2.2.2.1 t_55.2.2.2.2.2.2.2.2.2.2.2.2.2.2.2.2.2.2.2.2.2.2.2.2.2.2.2.1 t_55.2.2.2.2.2.2.2.2.2.2.2.2.2.2.2.2.2.2.2.2.2.2.2.2.2.2.2.2.1 t_55.2.2.2.2.2.2.2.2.2.2.2.2.2.2.2.2.2.2.2.2.2.2.2.2.2.2.2.2.2 t_4.1 t_4.2.1 t_55.1 t_4.2.2.2.1 t_4.2.2.2.2.1 t_4.2.2.2.2.2.1 t_4.2.2.2.2.2.2.1 t_4.2.2.2.2.2.2.2.1 t_62.2.2.1 t_55.2.2.2.2.2.2.2.2.1 t_55.2.1 t_55.2.2.1 t_55.2.2.2.1 t_55.2.2.2.2.1 t_55.2.2.2.2.2.1 t_62.2.1 t_55.2.2.2.2.2.2.2.1 t_55.2.2.2.2.2.2.2.2.2.1 t_55.2.2.2.2.2.2.2.2.2.2.1 t_55.2.2.2.2.2.2.2.2.2.2.2.1 t_55.2.2.2.2.2.2.2.2.2.2.2.2.1 t_55.2.2.2.2.2.2.2.2.2.2.2.2.2.1 t_55.2.2.2.2.2.2.2.2.2.2.2.2.2.2.1 t_55.2.2.2.2.2.2.2.2.2.2.2.2.2.2.2.1 t_55.2.2.2.2.2.2.2.2.2.2.2.2.2.2.2.2.1 t_55.2.2.2.2.2.2.2.2.2.2.2.2.2.2.2.2.2.1 t_55.2.2.2.2.2.2.2.2.2.2.2.2.2.2.2.2.2.2.1 t_55.2.2.2.2.2.2.2.2.2.2.2.2.2.2.2.2.2.2.2.1 t_55.2.2.2.2.2.2.2.2.2.2.2.2.2.2.2.2.2.2.2.2.1 t_55.2.2.2.2.2.2.2.2.2.2.2.2.2.2.2.2.2.2.2.2.2.1 t_55.2.2.2.2.2.2.2.2.2.2.2.2.2.2.2.2.2.2.2.2.2.2.1 t_62.2.2.2 t_55.2.2.2.2.2.2.2.2.2.2.2.2.2.2.2.2.2.2.2.2.2.2.2.1 t_55.2.2.2.2.2.2.2.2.2.2.2.2.2.2.2.2.2.2.2.2.2.2.2.2.1 ai ao) ++ pw ty pp) H := hP
      have hD : va_D A ((wW_k_X10_walkByAll ty X pn rn tn en rf tp tq ea es t_55.2.2.2.2.2.2.2.2.2.2.2.2.2.2.2.2.2.2.2.2.2.2.2.2.2.1 t_4.2.2.2.2.2.2.2.2.2.2.2.2.2.1 t_4.2.2.2.2.2.2.2.2.1 t_4.2.2.2.2.2.2.2.2.2.1 t_4.2.2.2.2.2.2.2.2.2.2.1 t_4.2.2.2.2.2.2.2.2.2.2.2.1 t_55.2.2.2.2.2.2.2.2.2.2.2.2.2.2.2.2.2.2.2.2.2.2.2.2.2.2.1 t_55.2.2.2.2.2.2.2.2.2.2.2.2.2.2.2.2.2.2.2.2.2.2.2.2.2.2.2.1 t_55.2.2.2.2.2.2.2.2.2.2.2.2.2.2.2.2.2.2.2.2.2.2.2.2.2.2.2.2.1 t_55.2.2.2.2.2.2.2.2.2.2.2.2.2.2.2.2.2.2.2.2.2.2.2.2.2.2.2.2.2 t_4.1 t_4.2.1 t_55.1 t_4.2.2.2.1 t_4.2.2.2.2.1 t_4.2.2.2.2.2.1 t_4.2.2.2.2.2.2.1 t_4.2.2.2.2.2.2.2.1 t_62.2.2.1 t_55.2.2.2.2.2.2.2.2.1 t_55.2.1 t_55.2.2.1 t_55.2.2.2.1 t_55.2.2.2.2.1 t_55.2.2.2.2.2.1 t_62.2.1 t_55.2.2.2.2.2.2.2.1 t_55.2.2.2.2.2.2.2.2.2.1 t_55.2.2.2.2.2.2.2.2.2.2.1 t_55.2.2.2.2.2.2.2.2.2.2.2.1 t_55.2.2.2.2.2.2.2.2.2.2.2.2.1 t_55.2.2.2.2.2.2.2.2.2.2.2.2.2.1 t_55.2.2.2.2.2.2.2.2.2.2.2.2.2.2.1 t_55.2.2.2.2.2.2.2.2.2.2.2.2.2.2.2.1 t_55.2.2.2.2.2.2.2.2.2.2.2.2.2.2.2.2.1 t_55.2.2.2.2.2.2.2.2.2.2.2.2.2.2.2.2.2.1 t_55.2.2.2.2.2.2.2.2.2.2.2.2.2.2.2.2.2.2.1 t_55.2.2.2.2.2.2.2.2.2.2.2.2.2.2.2.2.2.2.2.1 t_55.2.2.2.2.2.2.2.2.2.2.2.2.2.2.2.2.2.2.2.2.1 t_55.2.2.2.2.2.2.2.2.2.2.2.2.2.2.2.2.2.2.2.2.2.1 t_55.2.2.2.2.2.2.2.2.2.2.2.2.2.2.2.2.2.2.2.2.2.2.1 t_62.2.2.2 t_55.2.2.2.2.2.2.2.2.2.2.2.2.2.2.2.2.2.2.2.2.2.2.2.1 t_55.2.2.2.2.2.2.2.2.2.2.2.2.2.2.2.2.2.2.2.2.2.2.2.2.1 ai ao) ++ pw ty pp) := hD
      refine W.widen (k := 0) (n := 0) (Nat.le_of_ble_eq_true rfl) (Nat.le_of_ble_eq_true rfl) ?_
      refine W.widen (k := 1) (n := 6) (Nat.le_of_ble_eq_true rfl) (Nat.le_of_ble_eq_true rfl) ?_
      exact END t_62.1 t_4.1 t_4.2.1 t_55.1 t_4.2.2.2.1 t_4.2.2.2.2.1 t_4.2.2.2.2.2.1 t_4.2.2.2.2.2.2.1 t_4.2.2.2.2.2.2.2.1 t_55.2.1 t_55.2.2.1 t_55.2.2.2.1 t_55.2.2.2.2.1 t_55.2.2.2.2.2.1 t_62.2.1 t_55.2.2.2.2.2.2.2.1 t_62.2.2.1 t_55.2.2.2.2.2.2.2.2.1 t_55.2.2.2.2.2.2.2.2.2.1 t_55.2.2.2.2.2.2.2.2.2.2.1 t_55.2.2.2.2.2.2.2.2.2.2.2.1 t_55.2.2.2.2.2.2.2.2.2.2.2.2.1 t_55.2.2.2.2.2.2.2.2.2.2.2.2.2.1 t_55.2.2.2.2.2.2.2.2.2.2.2.2.2.2.1 t_55.2.2.2.2.2.2.2.2.2.2.2.2.2.2.2.1 t_55.2.2.2.2.2.2.2.2.2.2.2.2.2.2.2.2.1 t_55.2.2.2.2.2.2.2.2.2.2.2.2.2.2.2.2.2.1 t_55.2.2.2.2.2.2.2.2.2.2.2.2.2.2.2.2.2.2.1 t_55.2.2.2.2.2.2.2.2.2.2.2.2.2.2.2.2.2.2.2.1 t_55.2.2.2.2.2.2.2.2.2.2.2.2.2.2.2.2.2.2.2.2.1 t_55.2.2.2.2.2.2.2.2.2.2.2.2.2.2.2.2.2.2.2.2.2.1 t_55.2.2.2.2.2.2.2.2.2.2.2.2.2.2.2.2.2.2.2.2.2.2.1 t_62.2.2.2 t_55.2.2.2.2.2.2.2.2.2.2.2.2.2.2.2.2.2.2.2.2.2.2.2.1 t_55.2.2.2.2.2.2.2.2.2.2.2.2.2.2.2.2.2.2.2.2.2.2.2.2.1 t_4.2.2.2.2.2.2.2.2.1 t_4.2.2.2.2.2.2.2.2.2.1 t_4.2.2.2.2.2.2.2.2.2.2.1 t_4.2.2.2.2.2.2.2.2.2.2.2.1 t_55.2.2.2.2.2.2.2.2.2.2.2.2.2.2.2.2.2.2.2.2.2.2.2.2.2.1 t_4.2.2.2.2.2.2.2.2.2.2.2.2.2.1 t_55.2.2.2.2.2.2.2.2.2.2.2.2.2.2.2.2.2.2.2.2.2.2.2.2.2.2.1 t_55.2.2.2.2.2.2.2.2.2.2.2.2.2.2.2.2.2.2.2.2.2.2.2.2.2.2.2.1 t_55.2.2.2.2.2.2.2.2.2.2.2.2.2.2.2.2.2.2.2.2.2.2.2.2.2.2.2.2.1 t_55.2.2.2.2.2.2.2.2.2.2.2.2.2.2.2.2.2.2.2.2.2.2.2.2.2.2.2.2.2 hT _ _ hP hD hS _ _ dX10_walkByAll_65
    · rw [if_neg c_4] at hT
      exact J_32 () hT _ _ hP hD hS _ (lv_sub hl [] rfl)
theorem dX10_has_0 : decode cX10_has 0 = .ok (.aload_n 0, 1) := by decide +kernel
theorem dX10_has_1 : decode cX10_has 1 = .ok (.iload_n 1, 1) := by decide +kernel
theorem dX10_has_2 : decode cX10_has 2 = .ok (.invokevirtual 299, 3) := by decide +kernel
theorem dX10_has_5 : decode cX10_has 5 = .ok (.istore 5, 2) := by decide +kernel
theorem dX10_has_7 : decode cX10_has 7 = .ok (.aload_n 0, 1) := by decide +kernel
theorem dX10_has_8 : decode cX10_has 8 = .ok (.getfield 30, 3) := by decide +kernel
theorem dX10_has_11 : decode cX10_has 11 = .ok (.iload 5, 2) := by decide +kernel
theorem dX10_has_13 : decode cX10_has 13 = .ok (.aload_n 0, 1) := by decide +kernel
theorem dX10_has_14 : decode cX10_has 14 = .ok (.iload_n 2, 1) := by decide +kernel
theorem dX10_has_15 : decode cX10_has 15 = .ok (.iload_n 3, 1) := by decide +kernel
theorem dX10_has_16 : decode cX10_has 16 = .ok (.iload 4, 2) := by decide +kernel
theorem dX10_has_18 : decode cX10_has 18 = .ok (.invokevirtual 206, 3) := by decide +kernel
theorem dX10_has_21 : decode cX10_has 21 = .ok (.invokevirtual 302, 3) := by decide +kernel
theorem dX10_has_24 : decode cX10_has 24 = .ok (.ireturn, 1) := by decide +kernel
def wW_k_X10_has (ty : Nat → ClassId) (X : Nat → Nat) (z9_0 : Int32) (z9_1 : Int32) (z9_2 : Int32) (z9_3 : Int32) (z9_4 : Nat → Int32) (z9_5 : Int32) (z9_6 : Int32) (z9_7 : Int32) (z9_8 : Int32) (z9_9 : Int32) (z9_10 : Int32) (z9_11 : Nat → Int64) (z9_12 : Nat → Int32) (z9_13 : Int32) (z9_14 : Int32) (z9_15 : Int32) (z9_16 : Int32) (z9_17 : Int32) (z9_18 : Int32) (z9_19 : Int32) (z9_20 : Int32) (z9_21 : Int32) (z9_22 : Int32) (z9_23 : Int32) (z9_24 : Nat → Int32) : va_W := [((X 0), .inr (12, [.ref (X 1), .ref (X 8), .ref (X 20), .ref (X 39), .ref (X 41), .ref (X 43), .ref (X 45)])), ((X 1), .inr (8, [.ref (X 2), .int z9_0, .ref (X 3), .int z9_1, .ref (X 4), .ref (X 5), .int z9_2, .ref (X 6), .ref (X 7), .int z9_3])), ((X 2), .inl (ty 0, 6, .inl z9_4)), ((X 8), .inr (5, [.ref (X 1), .ref (X 9), .ref (X 10), .ref (X 12), .ref (X 14), .int z9_5, .ref (X 15), .ref (X 16), .ref (X 17), .int z9_6, .ref (X 18), .ref (X 19), .int z9_7, .int z9_8, .int z9_9, .int z9_10])), ((X 10), .inr (3, [.ref (X 11)])), ((X 11), .inl (ty 1, 6, .inr (.inl z9_11))), ((X 19), .inl (ty 0, 384, .inl z9_12)), ((X 20), .inr (11, [.ref (X 1), .ref (X 8), .ref (X 21), .ref (X 28), .ref (X 35), .int z9_13, .ref (X 36), .ref (X 37), .ref (X 38), .int z9_14, .int z9_15, .int z9_16, .int z9_17, .int z9_18, .int z9_19, .int z9_20, .int z9_21])), ((X 45), .inr (2, [.ref (X 46), .ref (X 47), .int z9_22, .int z9_23])), ((X 46), .inl (ty 0, 64, .inl z9_24))]
abbrev r_k_X10_has : Type := Int32 × Int32
def m_k_X10_has (pn : Int32) (pl : Nat → Int32) (on : Int32) (su : Nat → Int64) (ob : Nat → Int32) (nn : Int32) (kp : Int32) (se : Nat → Int32) (a1 : Int32) (a2 : Int32) (a3 : Int32) (a4 : Int32) : r_k_X10_has :=
  lE (m_k_X10_checkedAnswer nn kp se a1) (fun t_2 =>
    if t_2.1 = 0 then
      lE (m_k_X10_checkedAtom pn pl a2 a3 a4) (fun t_18 =>
        if t_18.1 = 0 then
          lE (m_k_X9_isIn on su ob t_2.2 t_18.2) (fun t_21 =>
            (0, t_21))
        else
          if t_18.1 = 1 then
            (1, 0)
          else
            (2, 0))
    else
      if t_2.1 = 1 then
        (1, 0)
      else
        (3, 0))
def vs_k_X10_has : List Cond := .code yX10_has cX10_has 6 (some .boolean) :: ([.methodLink RX10 299 yX10_checkedAnswer, .instanceMethod yX10_checkedAnswer, .selects RX10 yX10_checkedAnswer yX10_checkedAnswer, .initialized RX10, .fieldLink RX10 30 "AnswerFold" "solver" "LAnswerFold$Solver;", .methodLink RX10 206 yX10_checkedAtom, .instanceMethod yX10_checkedAtom, .selects RX10 yX10_checkedAtom yX10_checkedAtom, .methodLink RX10 302 yX9_isIn, .instanceMethod yX9_isIn, .selects RX9 yX9_isIn yX9_isIn, .initialized RX9] ++ (vs_k_X10_checkedAnswer ++ (u_ws RX10 TX10 7 ++ (vs_k_X10_checkedAtom ++ (vs_k_X9_isIn)))))
theorem iv_k_X10_has_X10 : ∀ w ∈ u_ws RX10 TX10 7, w ∈ vs_k_X10_has := (fun _ h => List.mem_cons_of_mem _ (List.mem_append_right _ (List.mem_append_right _ (List.mem_append_left _ h))))
set_option maxRecDepth 20000 in
theorem gv_k_X10_has_0 : GoodIn vs_k_X10_has (wsV RX10 299 RX10 yX10_checkedAnswer vs_k_X10_checkedAnswer) := goodIn_app (goodIn_sub (by decide +kernel) (by decide +kernel)) (goodIn_sub (fun _ h => List.mem_cons_of_mem _ (List.mem_append_right _ (List.mem_append_left _ h))) (by decide +kernel))
set_option maxRecDepth 20000 in
theorem gv_k_X10_has_1 : GoodIn vs_k_X10_has (wsV RX10 206 RX10 yX10_checkedAtom vs_k_X10_checkedAtom) := goodIn_app (goodIn_sub (by decide +kernel) (by decide +kernel)) (goodIn_sub (fun _ h => List.mem_cons_of_mem _ (List.mem_append_right _ (List.mem_append_right _ (List.mem_append_right _ (List.mem_append_left _ h))))) (by decide +kernel))
set_option maxRecDepth 20000 in
theorem gv_k_X10_has_2 : GoodIn vs_k_X10_has (wsV RX10 302 RX9 yX9_isIn vs_k_X9_isIn) := goodIn_app (goodIn_sub (by decide +kernel) (by decide +kernel)) (goodIn_sub (fun _ h => List.mem_cons_of_mem _ (List.mem_append_right _ (List.mem_append_right _ (List.mem_append_right _ (List.mem_append_right _ (h)))))) (by decide +kernel))
set_option maxHeartbeats 4000000 in
set_option maxRecDepth 100000 in
theorem k_X10_has (l : Launch) (hl9 : l.stackTraces = false) (D : va_G) (ty : Nat → ClassId) (td mi sz : Nat) (X : Nat → Nat) (pn : Int32) (rn : Int32) (tn : Int32) (en : Int32) (pl : Nat → Int32) (hn : Int32) (kn : Int32) (on : Int32) (cu : Int32) (pu : Int32) (gw : Int32) (su : Nat → Int64) (ob : Nat → Int32) (an : Int32) (ch : Int32) (cg : Int32) (fb : Int32) (mh : Int32) (ml : Int32) (ih : Int32) (lb : Int32) (ic : Int32) (nn : Int32) (kp : Int32) (se : Nat → Int32) (a1 : Int32) (a2 : Int32) (a3 : Int32) (a4 : Int32) (TT : r_k_X10_has) (hTT : TT = m_k_X10_has pn pl on su ob nn kp se a1 a2 a3 a4) : vx_Met l yX10_has vs_k_X10_has { frames := 8, cells := 3, slots := 18, locals := 123 } (va_Pc [.ref (X 0), .int a1, .int a2, .int a3, .int a4] (wq_P D ty td mi (wW_k_X10_has ty X pn rn tn en pl hn kn on cu pu gw su ob an ch cg fb mh ml ih lb ic nn kp se) sz)) (va_Qi (fun (r : Int32) (u : va_W) => (TT.1 = 0 ∧ r = TT.2 ∧ (TT.2 = 0 ∨ TT.2 = 1) ∧ (u = (wW_k_X10_has ty X pn rn tn en pl hn kn on cu pu gw su ob an ch cg fb mh ml ih lb ic nn kp se)))) (wq_B D (va_A (wW_k_X10_has ty X pn rn tn en pl hn kn on cu pu gw su ob an ch cg fb mh ml ih lb ic nn kp se) sz)) (va_A (wW_k_X10_has ty X pn rn tn en pl hn kn on cu pu gw su ob an ch cg fb mh ml ih lb ic nn kp se) sz)) (vx_X (fun u : String × va_W => (TT.1 = 1 ∧ u = ("java/lang/IndexOutOfBoundsException", (wW_k_X10_has ty X pn rn tn en pl hn kn on cu pu gw su ob an ch cg fb mh ml ih lb ic nn kp se))) ∨ (TT.1 = 2 ∧ u = ("java/lang/IllegalArgumentException", (wW_k_X10_has ty X pn rn tn en pl hn kn on cu pu gw su ob an ch cg fb mh ml ih lb ic nn kp se))) ∨ (TT.1 = 3 ∧ u = ("java/lang/IllegalStateException", (wW_k_X10_has ty X pn rn tn en pl hn kn on cu pu gw su ob an ch cg fb mh ml ih lb ic nn kp se)))) (wq_BX D (va_A (wW_k_X10_has ty X pn rn tn en pl hn kn on cu pu gw su ob an ch cg fb mh ml ih lb ic nn kp se) sz)) (va_A (wW_k_X10_has ty X pn rn tn en pl hn kn on cu pu gw su ob an ch cg fb mh ml ih lb ic nn kp se) sz)) 3 18 (va_A (wW_k_X10_has ty X pn rn tn en pl hn kn on cu pu gw su ob an ch cg fb mh ml ih lb ic nn kp se) sz) := by
  refine vx_ofW (cc := cX10_has) (maxL := 6) (ret := (some .boolean)) (by decide) rfl ?_
  intro p e s m args below meth c s₁ B hml hEx hv
  obtain ⟨rfl, hsz, hP, hK, hD0, hE⟩ := hv
  have hx := B.exec
  have hb := B.bytes
  have hr := B.returns
  have hts := atoms_spec (ws := vs_k_X10_has) B.pre
  have hown : s.vm.findClass RX10 = some m.cls := findClass_of_methodNamed B.named
  have hlocks := B.notSynchronized
  subst hsz
  have hD := hD0.self (sz := s.heap.size)
  generalize hAe : va_A (wW_k_X10_has ty X pn rn tn en pl hn kn on cu pu gw su ob an ch cg fb mh ml ih lb ic nn kp se) s.heap.size = A at hD hE ⊢
  have hA : ∀ q : Nat, s.heap.size ≤ q → A q := fun q h => by rw [← hAe]; exact Or.inr h
  have hS : va_S A s.heap s.heap [] := va_S.rf
  have hP : va_P D vwCl (wW_k_X10_has ty X pn rn tn en pl hn kn on cu pu gw su ob an ch cg fb mh ml ih lb ic nn kp se) s.heap := hP
  have hl := lv_entry ([.ref (X 0), .int a1, .int a2, .int a3, .int a4]) (n := 6) (Nat.le_of_ble_eq_true rfl)
  rw [lg_entry_eq]
  generalize (lg_sl ([.ref (X 0), .int a1, .int a2, .int a3, .int a4]) ++ List.replicate (6 - (lg_sl ([.ref (X 0), .int a1, .int a2, .int a3, .int a4])).length) Slot.unset).toArray = ls at hl ⊢
  have hl : lv_has ls 6 [(0, .ref (X 0)), (1, .int a1), (2, .int a2), (3, .int a3), (4, .int a4)] := hl
  have END : ∀ (r : Int32), TT = (0, r) → (r = 0 ∨ r = 1) → ∀ (H : Heap) (locs : List Loc), va_P D vwCl (wW_k_X10_has ty X pn rn tn en pl hn kn on cu pu gw su ob an ch cg fb mh ml ih lb ic nn kp se) H → va_D A (wW_k_X10_has ty X pn rn tn en pl hn kn on cu pu gw su ob an ch cg fb mh ml ih lb ic nn kp se) → va_S A s.heap H locs → ∀ (ls : Array Slot) (pc : Nat), decode cX10_has pc = .ok (.ireturn, 1) → W p l e (headSpec vs_k_X10_has { frames := 8, cells := 3, slots := 18, locals := 123 }).room s m ([.ref (X 0), .int a1, .int a2, .int a3, .int a4] : List Value).toArray below meth c H locs 3 18 (vx_MQ below (va_Qi (fun (r : Int32) (u : va_W) => (TT.1 = 0 ∧ r = TT.2 ∧ (TT.2 = 0 ∨ TT.2 = 1) ∧ (u = (wW_k_X10_has ty X pn rn tn en pl hn kn on cu pu gw su ob an ch cg fb mh ml ih lb ic nn kp se)))) (wq_B D A) A) (vx_X (fun u : String × va_W => (TT.1 = 1 ∧ u = ("java/lang/IndexOutOfBoundsException", (wW_k_X10_has ty X pn rn tn en pl hn kn on cu pu gw su ob an ch cg fb mh ml ih lb ic nn kp se))) ∨ (TT.1 = 2 ∧ u = ("java/lang/IllegalArgumentException", (wW_k_X10_has ty X pn rn tn en pl hn kn on cu pu gw su ob an ch cg fb mh ml ih lb ic nn kp se))) ∨ (TT.1 = 3 ∧ u = ("java/lang/IllegalStateException", (wW_k_X10_has ty X pn rn tn en pl hn kn on cu pu gw su ob an ch cg fb mh ml ih lb ic nn kp se)))) (wq_BX D A) A) ([.ref (X 0), .int a1, .int a2, .int a3, .int a4] : List Value).toArray s 3 18 A) (F0 m pc ls [.int r]) := by
    intro r hT hb01 H locs hP hD hS ls pc hd
    have hM : TT = (0, r) := hT
    refine vx_ret ?_
    exact W.zret (v := r) hx hb hr (wz_nar hb01) (fun t ht hW => ⟨⟨r, (wW_k_X10_has ty X pn rn tn en pl hn kn on cu pu gw su ob an ch cg fb mh ml ih lb ic nn kp se), rfl, ⟨(by rw [hM]), (by rw [hM]), (by rw [hM]; exact hb01), rfl⟩, wq_B.of ht hP hD⟩, hS.F ht⟩) hS.2.2 hd
  have hT := hTT
  rw [m_k_X10_has] at hT
  refine lv_aload_n hx hb dX10_has_0 rfl (lv_at hl 0 rfl) ?_
  refine lv_iload_n hx hb dX10_has_1 rfl (lv_at hl 1 rfl) ?_
  obtain ⟨t_2, ht_2⟩ : ∃ t, t = m_k_X10_checkedAnswer nn kp se a1 := ⟨_, rfl⟩
  rw [lE_eq ht_2] at hT
  refine wq_xiW (wc := (wW_k_X10_checkedAnswer ty X nn kp se)) (vx_runV (As := [.int a1]) (rest := []) ⟨hx, hb, hml, hown, hts⟩ (k_X10_checkedAnswer l hl9 D ty td mi s.heap.size X nn kp se a1 t_2 ht_2) (cwV 1 hts gv_k_X10_has_0 rfl rfl rfl (by decide +kernel) ⟨(Nat.le_of_ble_eq_true rfl), (Nat.le_of_ble_eq_true rfl)⟩) (wm_V (wm_preS hP hD hK hE hS hA [true, false, false, false, false, false, false, false, true, true] rfl) (va_recv (q0 := 0) (ci := 12) hK hP rfl rfl)) rfl rfl hl.1 rfl (lv_room (Nat.le_of_ble_eq_true rfl)) dX10_has_2 ⟨(Nat.le_of_ble_eq_true rfl), (Nat.le_of_ble_eq_true rfl)⟩) hS hA hP hD [true, false, false, false, false, false, false, false, true, true] rfl (fun _ _ h => by rcases h with ⟨-, -, rfl⟩; rfl) (fun _ _ h => by rcases h with ⟨-, h⟩ | ⟨-, h⟩ <;> (cases h; rfl)) (fun E9 u H locs q9 ce hw hP hD hS hce hcv hcl => ?_) (fun r u H locs hw hP hD hS => ?_)
  · rcases hw with ⟨c_1, hEq⟩ | ⟨c_2, hEq⟩
    · cases hEq
      rw [if_neg (show ¬ t_2.1 = 0 by rw [c_1]; decide)] at hT
      rw [if_pos c_1] at hT
      have hP : va_P D vwCl (wW_k_X10_has ty X pn rn tn en pl hn kn on cu pu gw su ob an ch cg fb mh ml ih lb ic nn kp se) H := hP
      have hD : va_D A (wW_k_X10_has ty X pn rn tn en pl hn kn on cu pu gw su ob an ch cg fb mh ml ih lb ic nn kp se) := hD
      refine vx_widen (k := 3) (n := 18) (Nat.le_of_ble_eq_true rfl) (Nat.le_of_ble_eq_true rfl) ?_
      exact vx_out (E := "java/lang/IndexOutOfBoundsException") (fun x hx => (hEx x hx).elim) hlocks hce hcv hcl (fun t ht ha => wq_thrW0 (W := (wW_k_X10_has ty X pn rn tn en pl hn kn on cu pu gw su ob an ch cg fb mh ml ih lb ic nn kp se)) hS hP hD (by exact (Or.inl ⟨(by rw [hT]), (by first | rw [hT] | rfl)⟩)) ht) hS.2.2 (Nat.le_refl _) (Nat.le_refl _)
    · cases hEq
      rw [if_neg (show ¬ t_2.1 = 0 by rw [c_2]; decide)] at hT
      rw [if_neg (show ¬ t_2.1 = 1 by rw [c_2]; decide)] at hT
      have hP : va_P D vwCl (wW_k_X10_has ty X pn rn tn en pl hn kn on cu pu gw su ob an ch cg fb mh ml ih lb ic nn kp se) H := hP
      have hD : va_D A (wW_k_X10_has ty X pn rn tn en pl hn kn on cu pu gw su ob an ch cg fb mh ml ih lb ic nn kp se) := hD
      refine vx_widen (k := 3) (n := 18) (Nat.le_of_ble_eq_true rfl) (Nat.le_of_ble_eq_true rfl) ?_
      exact vx_out (E := "java/lang/IllegalStateException") (fun x hx => (hEx x hx).elim) hlocks hce hcv hcl (fun t ht ha => wq_thrW0 (W := (wW_k_X10_has ty X pn rn tn en pl hn kn on cu pu gw su ob an ch cg fb mh ml ih lb ic nn kp se)) hS hP hD (by exact (Or.inr (Or.inr ⟨(by rw [hT]), (by first | rw [hT] | rfl)⟩))) ht) hS.2.2 (Nat.le_refl _) (Nat.le_refl _)
  · obtain ⟨c_3, rfl, rfl⟩ := hw
    rw [if_pos c_3] at hT
    have hP : va_P D vwCl (wW_k_X10_has ty X pn rn tn en pl hn kn on cu pu gw su ob an ch cg fb mh ml ih lb ic nn kp se) H := hP
    have hD : va_D A (wW_k_X10_has ty X pn rn tn en pl hn kn on cu pu gw su ob an ch cg fb mh ml ih lb ic nn kp se) := hD
    refine W.widen (k := 2) (n := 12) (Nat.le_of_ble_eq_true rfl) (Nat.le_of_ble_eq_true rfl) ?_
    refine lv_istore (lv' := [(5, .int t_2.2), (0, .ref (X 0)), (1, .int a1), (2, .int a2), (3, .int a3), (4, .int a4)]) hx hb dX10_has_5 hl (by decide) rfl (fun ls hl => ?_)
    refine lv_aload_n hx hb dX10_has_7 rfl (lv_at hl 1 rfl) ?_
    refine va_get (D := D) (ci := 12) (v := .ref (X 20)) (C := RX10) (T := TX10) (N := 7) hx hb hts iv_k_X10_has_X10 hown hK hP 0 rfl rfl 2 (by decide) (hts (.fieldLink RX10 30 "AnswerFold" "solver" "LAnswerFold$Solver;") (by decide +kernel)) (fun _ h9 => h9) rfl dX10_has_8 ?_
    refine lv_iload hx hb dX10_has_11 (lv_at hl 0 rfl) ?_
    refine lv_aload_n hx hb dX10_has_13 rfl (lv_at hl 1 rfl) ?_
    refine lv_iload_n hx hb dX10_has_14 rfl (lv_at hl 3 rfl) ?_
    refine lv_iload_n hx hb dX10_has_15 rfl (lv_at hl 4 rfl) ?_
    refine lv_iload hx hb dX10_has_16 (lv_at hl 5 rfl) ?_
    obtain ⟨t_18, ht_18⟩ : ∃ t, t = m_k_X10_checkedAtom pn pl a2 a3 a4 := ⟨_, rfl⟩
    rw [lE_eq ht_18] at hT
    refine wq_xiW (wc := (wW_k_X10_checkedAtom ty X pn rn tn en pl)) (vx_runV (As := [.int a2, .int a3, .int a4]) (rest := [.int t_2.2, .ref (X 20)]) ⟨hx, hb, hml, hown, hts⟩ (k_X10_checkedAtom l hl9 D ty td mi H.size X pn rn tn en pl a2 a3 a4 t_18 ht_18) (cwV 3 hts gv_k_X10_has_1 rfl rfl rfl (by decide +kernel) ⟨(Nat.le_of_ble_eq_true rfl), (Nat.le_of_ble_eq_true rfl)⟩) (wm_V (wm_preS hP hD hK hE hS hA [true, true, true] rfl) (va_recv (q0 := 0) (ci := 12) hK hP rfl rfl)) rfl rfl hl.1 rfl (lv_room (Nat.le_of_ble_eq_true rfl)) dX10_has_18 ⟨(Nat.le_of_ble_eq_true rfl), (Nat.le_of_ble_eq_true rfl)⟩) hS hA hP hD [true, true, true] rfl (fun _ _ h => by rcases h with ⟨-, -, rfl⟩; rfl) (fun _ _ h => by rcases h with ⟨-, h⟩ | ⟨-, h⟩ <;> (cases h; rfl)) (fun E9 u H locs q9 ce hw hP hD hS hce hcv hcl => ?_) (fun r u H locs hw hP hD hS => ?_)
    · rcases hw with ⟨c_5, hEq⟩ | ⟨c_6, hEq⟩
      · cases hEq
        rw [if_neg (show ¬ t_18.1 = 0 by rw [c_5]; decide)] at hT
        rw [if_pos c_5] at hT
        have hP : va_P D vwCl (wW_k_X10_has ty X pn rn tn en pl hn kn on cu pu gw su ob an ch cg fb mh ml ih lb ic nn kp se) H := hP
        have hD : va_D A (wW_k_X10_has ty X pn rn tn en pl hn kn on cu pu gw su ob an ch cg fb mh ml ih lb ic nn kp se) := hD
        refine vx_widen (k := 3) (n := 18) (Nat.le_of_ble_eq_true rfl) (Nat.le_of_ble_eq_true rfl) ?_
        exact vx_out (E := "java/lang/IndexOutOfBoundsException") (fun x hx => (hEx x hx).elim) hlocks hce hcv hcl (fun t ht ha => wq_thrW0 (W := (wW_k_X10_has ty X pn rn tn en pl hn kn on cu pu gw su ob an ch cg fb mh ml ih lb ic nn kp se)) hS hP hD (by exact (Or.inl ⟨(by rw [hT]), (by first | rw [hT] | rfl)⟩)) ht) hS.2.2 (Nat.le_refl _) (Nat.le_refl _)
      · cases hEq
        rw [if_neg (show ¬ t_18.1 = 0 by rw [c_6]; decide)] at hT
        rw [if_neg (show ¬ t_18.1 = 1 by rw [c_6]; decide)] at hT
        have hP : va_P D vwCl (wW_k_X10_has ty X pn rn tn en pl hn kn on cu pu gw su ob an ch cg fb mh ml ih lb ic nn kp se) H := hP
        have hD : va_D A (wW_k_X10_has ty X pn rn tn en pl hn kn on cu pu gw su ob an ch cg fb mh ml ih lb ic nn kp se) := hD
        refine vx_widen (k := 3) (n := 18) (Nat.le_of_ble_eq_true rfl) (Nat.le_of_ble_eq_true rfl) ?_
        exact vx_out (E := "java/lang/IllegalArgumentException") (fun x hx => (hEx x hx).elim) hlocks hce hcv hcl (fun t ht ha => wq_thrW0 (W := (wW_k_X10_has ty X pn rn tn en pl hn kn on cu pu gw su ob an ch cg fb mh ml ih lb ic nn kp se)) hS hP hD (by exact (Or.inr (Or.inl ⟨(by rw [hT]), (by first | rw [hT] | rfl)⟩))) ht) hS.2.2 (Nat.le_refl _) (Nat.le_refl _)
    · obtain ⟨c_7, rfl, rfl⟩ := hw
      rw [if_pos c_7] at hT
      have hP : va_P D vwCl (wW_k_X10_has ty X pn rn tn en pl hn kn on cu pu gw su ob an ch cg fb mh ml ih lb ic nn kp se) H := hP
      have hD : va_D A (wW_k_X10_has ty X pn rn tn en pl hn kn on cu pu gw su ob an ch cg fb mh ml ih lb ic nn kp se) := hD
      refine W.widen (k := 3) (n := 18) (Nat.le_of_ble_eq_true rfl) (Nat.le_of_ble_eq_true rfl) ?_
      obtain ⟨t_21, ht_21⟩ : ∃ t, t = m_k_X9_isIn on su ob t_2.2 t_18.2 := ⟨_, rfl⟩
      rw [lE_eq ht_21] at hT
      refine wq_iW (wc := (wW_k_X9_isIn ty X hn kn on cu pu gw su ob an ch cg fb mh ml ih lb ic)) (va_runV (As := [.int t_2.2, .int t_18.2]) (rest := []) ⟨hx, hb, hml, hown, hts⟩ (k_X9_isIn l D ty td mi H.size X hn kn on cu pu gw su ob an ch cg fb mh ml ih lb ic t_2.2 t_18.2 t_21 ht_21) (cwV 2 hts gv_k_X10_has_2 rfl rfl rfl (by decide +kernel) ⟨(Nat.le_of_ble_eq_true rfl), (Nat.le_of_ble_eq_true rfl)⟩) (wm_V (wm_preS hP hD hK hE hS hA [false, false, false, true, true, true, true, true] rfl) (va_recv (q0 := 7) (ci := 11) hK hP rfl rfl)) rfl rfl hl.1 rfl (lv_room (Nat.le_of_ble_eq_true rfl)) dX10_has_21 ⟨(Nat.le_of_ble_eq_true rfl), (Nat.le_of_ble_eq_true rfl)⟩) hS hA hP hD [false, false, false, true, true, true, true, true] rfl (fun _ _ h => by rcases h with ⟨-, -, rfl⟩; rfl) (fun r u H locs hw hP hD hS => ?_)
      obtain ⟨hr0, c_11, rfl⟩ := hw
      subst r
      have hP : va_P D vwCl (wW_k_X10_has ty X pn rn tn en pl hn kn on cu pu gw su ob an ch cg fb mh ml ih lb ic nn kp se) H := hP
      have hD : va_D A (wW_k_X10_has ty X pn rn tn en pl hn kn on cu pu gw su ob an ch cg fb mh ml ih lb ic nn kp se) := hD
      refine W.widen (k := 3) (n := 18) (Nat.le_of_ble_eq_true rfl) (Nat.le_of_ble_eq_true rfl) ?_
      exact END t_21 hT c_11 _ _ hP hD hS _ _ dX10_has_24
theorem dX10_size_0 : decode cX10_size 0 = .ok (.aload_n 0, 1) := by decide +kernel
theorem dX10_size_1 : decode cX10_size 1 = .ok (.getfield 30, 3) := by decide +kernel
theorem dX10_size_4 : decode cX10_size 4 = .ok (.aload_n 0, 1) := by decide +kernel
theorem dX10_size_5 : decode cX10_size 5 = .ok (.iload_n 1, 1) := by decide +kernel
theorem dX10_size_6 : decode cX10_size 6 = .ok (.invokevirtual 299, 3) := by decide +kernel
theorem dX10_size_9 : decode cX10_size 9 = .ok (.invokevirtual 305, 3) := by decide +kernel
theorem dX10_size_12 : decode cX10_size 12 = .ok (.ireturn, 1) := by decide +kernel
def wW_k_X10_size (ty : Nat → ClassId) (X : Nat → Nat) (z9_0 : Int32) (z9_1 : Int32) (z9_2 : Int32) (z9_3 : Int32) (z9_4 : Int32) (z9_5 : Int32) (z9_6 : Nat → Int64) (z9_7 : Int32) (z9_8 : Int32) (z9_9 : Int32) (z9_10 : Int32) (z9_11 : Int32) (z9_12 : Int32) (z9_13 : Int32) (z9_14 : Int32) (z9_15 : Int32) (z9_16 : Int32) (z9_17 : Int32) (z9_18 : Nat → Int32) : va_W := [((X 0), .inr (12, [.ref (X 1), .ref (X 8), .ref (X 20), .ref (X 39), .ref (X 41), .ref (X 43), .ref (X 45)])), ((X 8), .inr (5, [.ref (X 1), .ref (X 9), .ref (X 10), .ref (X 12), .ref (X 14), .int z9_0, .ref (X 15), .ref (X 16), .ref (X 17), .int z9_1, .ref (X 18), .ref (X 19), .int z9_2, .int z9_3, .int z9_4, .int z9_5])), ((X 10), .inr (3, [.ref (X 11)])), ((X 11), .inl (ty 1, 6, .inr (.inl z9_6))), ((X 20), .inr (11, [.ref (X 1), .ref (X 8), .ref (X 21), .ref (X 28), .ref (X 35), .int z9_7, .ref (X 36), .ref (X 37), .ref (X 38), .int z9_8, .int z9_9, .int z9_10, .int z9_11, .int z9_12, .int z9_13, .int z9_14, .int z9_15])), ((X 45), .inr (2, [.ref (X 46), .ref (X 47), .int z9_16, .int z9_17])), ((X 46), .inl (ty 0, 64, .inl z9_18))]
abbrev r_k_X10_size : Type := Int32 × Int32
def m_k_X10_size (su : Nat → Int64) (nn : Int32) (kp : Int32) (se : Nat → Int32) (a1 : Int32) : r_k_X10_size :=
  lE (m_k_X10_checkedAnswer nn kp se a1) (fun t_6 =>
    if t_6.1 = 0 then
      lE (m_k_X9_sizeOf su t_6.2) (fun t_9 =>
        (0, t_9))
    else
      if t_6.1 = 1 then
        (1, 0)
      else
        (3, 0))
def vs_k_X10_size : List Cond := .code yX10_size cX10_size 2 (some .int) :: ([.fieldLink RX10 30 "AnswerFold" "solver" "LAnswerFold$Solver;", .methodLink RX10 299 yX10_checkedAnswer, .instanceMethod yX10_checkedAnswer, .selects RX10 yX10_checkedAnswer yX10_checkedAnswer, .initialized RX10, .methodLink RX10 305 yX9_sizeOf, .instanceMethod yX9_sizeOf, .selects RX9 yX9_sizeOf yX9_sizeOf, .initialized RX9] ++ (u_ws RX10 TX10 7 ++ (vs_k_X10_checkedAnswer ++ (vs_k_X9_sizeOf))))
theorem iv_k_X10_size_X10 : ∀ w ∈ u_ws RX10 TX10 7, w ∈ vs_k_X10_size := (fun _ h => List.mem_cons_of_mem _ (List.mem_append_right _ (List.mem_append_left _ h)))
set_option maxRecDepth 20000 in
theorem gv_k_X10_size_0 : GoodIn vs_k_X10_size (wsV RX10 299 RX10 yX10_checkedAnswer vs_k_X10_checkedAnswer) := goodIn_app (goodIn_sub (by decide +kernel) (by decide +kernel)) (goodIn_sub (fun _ h => List.mem_cons_of_mem _ (List.mem_append_right _ (List.mem_append_right _ (List.mem_append_left _ h)))) (by decide +kernel))
set_option maxRecDepth 20000 in
theorem gv_k_X10_size_1 : GoodIn vs_k_X10_size (wsV RX10 305 RX9 yX9_sizeOf vs_k_X9_sizeOf) := goodIn_app (goodIn_sub (by decide +kernel) (by decide +kernel)) (goodIn_sub (fun _ h => List.mem_cons_of_mem _ (List.mem_append_right _ (List.mem_append_right _ (List.mem_append_right _ (h))))) (by decide +kernel))
set_option maxHeartbeats 4000000 in
set_option maxRecDepth 100000 in
theorem k_X10_size (l : Launch) (hl9 : l.stackTraces = false) (D : va_G) (ty : Nat → ClassId) (td mi sz : Nat) (X : Nat → Nat) (hn : Int32) (kn : Int32) (on : Int32) (cu : Int32) (pu : Int32) (gw : Int32) (su : Nat → Int64) (an : Int32) (ch : Int32) (cg : Int32) (fb : Int32) (mh : Int32) (ml : Int32) (ih : Int32) (lb : Int32) (ic : Int32) (nn : Int32) (kp : Int32) (se : Nat → Int32) (a1 : Int32) (TT : r_k_X10_size) (hTT : TT = m_k_X10_size su nn kp se a1) : vx_Met l yX10_size vs_k_X10_size { frames := 8, cells := 2, slots := 12, locals := 123 } (va_Pc [.ref (X 0), .int a1] (wq_P D ty td mi (wW_k_X10_size ty X hn kn on cu pu gw su an ch cg fb mh ml ih lb ic nn kp se) sz)) (va_Qi (fun (r : Int32) (u : va_W) => (TT.1 = 0 ∧ r = TT.2 ∧ (u = (wW_k_X10_size ty X hn kn on cu pu gw su an ch cg fb mh ml ih lb ic nn kp se)))) (wq_B D (va_A (wW_k_X10_size ty X hn kn on cu pu gw su an ch cg fb mh ml ih lb ic nn kp se) sz)) (va_A (wW_k_X10_size ty X hn kn on cu pu gw su an ch cg fb mh ml ih lb ic nn kp se) sz)) (vx_X (fun u : String × va_W => (TT.1 = 1 ∧ u = ("java/lang/IndexOutOfBoundsException", (wW_k_X10_size ty X hn kn on cu pu gw su an ch cg fb mh ml ih lb ic nn kp se))) ∨ (TT.1 = 3 ∧ u = ("java/lang/IllegalStateException", (wW_k_X10_size ty X hn kn on cu pu gw su an ch cg fb mh ml ih lb ic nn kp se)))) (wq_BX D (va_A (wW_k_X10_size ty X hn kn on cu pu gw su an ch cg fb mh ml ih lb ic nn kp se) sz)) (va_A (wW_k_X10_size ty X hn kn on cu pu gw su an ch cg fb mh ml ih lb ic nn kp se) sz)) 2 12 (va_A (wW_k_X10_size ty X hn kn on cu pu gw su an ch cg fb mh ml ih lb ic nn kp se) sz) := by
  refine vx_ofW (cc := cX10_size) (maxL := 2) (ret := (some .int)) (by decide) rfl ?_
  intro p e s m args below meth c s₁ B hml hEx hv
  obtain ⟨rfl, hsz, hP, hK, hD0, hE⟩ := hv
  have hx := B.exec
  have hb := B.bytes
  have hr := B.returns
  have hts := atoms_spec (ws := vs_k_X10_size) B.pre
  have hown : s.vm.findClass RX10 = some m.cls := findClass_of_methodNamed B.named
  have hlocks := B.notSynchronized
  subst hsz
  have hD := hD0.self (sz := s.heap.size)
  generalize hAe : va_A (wW_k_X10_size ty X hn kn on cu pu gw su an ch cg fb mh ml ih lb ic nn kp se) s.heap.size = A at hD hE ⊢
  have hA : ∀ q : Nat, s.heap.size ≤ q → A q := fun q h => by rw [← hAe]; exact Or.inr h
  have hS : va_S A s.heap s.heap [] := va_S.rf
  have hP : va_P D vwCl (wW_k_X10_size ty X hn kn on cu pu gw su an ch cg fb mh ml ih lb ic nn kp se) s.heap := hP
  have hl := lv_entry ([.ref (X 0), .int a1]) (n := 2) (Nat.le_of_ble_eq_true rfl)
  rw [lg_entry_eq]
  generalize (lg_sl ([.ref (X 0), .int a1]) ++ List.replicate (2 - (lg_sl ([.ref (X 0), .int a1])).length) Slot.unset).toArray = ls at hl ⊢
  have hl : lv_has ls 2 [(0, .ref (X 0)), (1, .int a1)] := hl
  have END : ∀ (r : Int32), TT = (0, r) → ∀ (H : Heap) (locs : List Loc), va_P D vwCl (wW_k_X10_size ty X hn kn on cu pu gw su an ch cg fb mh ml ih lb ic nn kp se) H → va_D A (wW_k_X10_size ty X hn kn on cu pu gw su an ch cg fb mh ml ih lb ic nn kp se) → va_S A s.heap H locs → ∀ (ls : Array Slot) (pc : Nat), decode cX10_size pc = .ok (.ireturn, 1) → W p l e (headSpec vs_k_X10_size { frames := 8, cells := 2, slots := 12, locals := 123 }).room s m ([.ref (X 0), .int a1] : List Value).toArray below meth c H locs 2 12 (vx_MQ below (va_Qi (fun (r : Int32) (u : va_W) => (TT.1 = 0 ∧ r = TT.2 ∧ (u = (wW_k_X10_size ty X hn kn on cu pu gw su an ch cg fb mh ml ih lb ic nn kp se)))) (wq_B D A) A) (vx_X (fun u : String × va_W => (TT.1 = 1 ∧ u = ("java/lang/IndexOutOfBoundsException", (wW_k_X10_size ty X hn kn on cu pu gw su an ch cg fb mh ml ih lb ic nn kp se))) ∨ (TT.1 = 3 ∧ u = ("java/lang/IllegalStateException", (wW_k_X10_size ty X hn kn on cu pu gw su an ch cg fb mh ml ih lb ic nn kp se)))) (wq_BX D A) A) ([.ref (X 0), .int a1] : List Value).toArray s 2 12 A) (F0 m pc ls [.int r]) := by
    intro r hT H locs hP hD hS ls pc hd
    have hM : TT = (0, r) := hT
    refine vx_ret ?_
    exact W.iret (v := r) hx hb hr (fun t ht hW => ⟨⟨r, (wW_k_X10_size ty X hn kn on cu pu gw su an ch cg fb mh ml ih lb ic nn kp se), rfl, ⟨(by rw [hM]), (by rw [hM]), rfl⟩, wq_B.of ht hP hD⟩, hS.F ht⟩) hS.2.2 hd
  have hT := hTT
  rw [m_k_X10_size] at hT
  refine lv_aload_n hx hb dX10_size_0 rfl (lv_at hl 0 rfl) ?_
  refine va_get (D := D) (ci := 12) (v := .ref (X 20)) (C := RX10) (T := TX10) (N := 7) hx hb hts iv_k_X10_size_X10 hown hK hP 0 rfl rfl 2 (by decide) (hts (.fieldLink RX10 30 "AnswerFold" "solver" "LAnswerFold$Solver;") (by decide +kernel)) (fun _ h9 => h9) rfl dX10_size_1 ?_
  refine lv_aload_n hx hb dX10_size_4 rfl (lv_at hl 0 rfl) ?_
  refine lv_iload_n hx hb dX10_size_5 rfl (lv_at hl 1 rfl) ?_
  obtain ⟨t_6, ht_6⟩ : ∃ t, t = m_k_X10_checkedAnswer nn kp se a1 := ⟨_, rfl⟩
  rw [lE_eq ht_6] at hT
  refine wq_xiW (wc := (wW_k_X10_checkedAnswer ty X nn kp se)) (vx_runV (As := [.int a1]) (rest := [.ref (X 20)]) ⟨hx, hb, hml, hown, hts⟩ (k_X10_checkedAnswer l hl9 D ty td mi s.heap.size X nn kp se a1 t_6 ht_6) (cwV 1 hts gv_k_X10_size_0 rfl rfl rfl (by decide +kernel) ⟨(Nat.le_of_ble_eq_true rfl), (Nat.le_of_ble_eq_true rfl)⟩) (wm_V (wm_preS hP hD hK hE hS hA [true, false, false, false, false, true, true] rfl) (va_recv (q0 := 0) (ci := 12) hK hP rfl rfl)) rfl rfl hl.1 rfl (lv_room (Nat.le_of_ble_eq_true rfl)) dX10_size_6 ⟨(Nat.le_of_ble_eq_true rfl), (Nat.le_of_ble_eq_true rfl)⟩) hS hA hP hD [true, false, false, false, false, true, true] rfl (fun _ _ h => by rcases h with ⟨-, -, rfl⟩; rfl) (fun _ _ h => by rcases h with ⟨-, h⟩ | ⟨-, h⟩ <;> (cases h; rfl)) (fun E9 u H locs q9 ce hw hP hD hS hce hcv hcl => ?_) (fun r u H locs hw hP hD hS => ?_)
  · rcases hw with ⟨c_1, hEq⟩ | ⟨c_2, hEq⟩
    · cases hEq
      rw [if_neg (show ¬ t_6.1 = 0 by rw [c_1]; decide)] at hT
      rw [if_pos c_1] at hT
      have hP : va_P D vwCl (wW_k_X10_size ty X hn kn on cu pu gw su an ch cg fb mh ml ih lb ic nn kp se) H := hP
      have hD : va_D A (wW_k_X10_size ty X hn kn on cu pu gw su an ch cg fb mh ml ih lb ic nn kp se) := hD
      refine vx_widen (k := 2) (n := 12) (Nat.le_of_ble_eq_true rfl) (Nat.le_of_ble_eq_true rfl) ?_
      exact vx_out (E := "java/lang/IndexOutOfBoundsException") (fun x hx => (hEx x hx).elim) hlocks hce hcv hcl (fun t ht ha => wq_thrW0 (W := (wW_k_X10_size ty X hn kn on cu pu gw su an ch cg fb mh ml ih lb ic nn kp se)) hS hP hD (by exact (Or.inl ⟨(by rw [hT]), (by first | rw [hT] | rfl)⟩)) ht) hS.2.2 (Nat.le_refl _) (Nat.le_refl _)
    · cases hEq
      rw [if_neg (show ¬ t_6.1 = 0 by rw [c_2]; decide)] at hT
      rw [if_neg (show ¬ t_6.1 = 1 by rw [c_2]; decide)] at hT
      have hP : va_P D vwCl (wW_k_X10_size ty X hn kn on cu pu gw su an ch cg fb mh ml ih lb ic nn kp se) H := hP
      have hD : va_D A (wW_k_X10_size ty X hn kn on cu pu gw su an ch cg fb mh ml ih lb ic nn kp se) := hD
      refine vx_widen (k := 2) (n := 12) (Nat.le_of_ble_eq_true rfl) (Nat.le_of_ble_eq_true rfl) ?_
      exact vx_out (E := "java/lang/IllegalStateException") (fun x hx => (hEx x hx).elim) hlocks hce hcv hcl (fun t ht ha => wq_thrW0 (W := (wW_k_X10_size ty X hn kn on cu pu gw su an ch cg fb mh ml ih lb ic nn kp se)) hS hP hD (by exact (Or.inr ⟨(by rw [hT]), (by first | rw [hT] | rfl)⟩)) ht) hS.2.2 (Nat.le_refl _) (Nat.le_refl _)
  · obtain ⟨c_3, rfl, rfl⟩ := hw
    rw [if_pos c_3] at hT
    have hP : va_P D vwCl (wW_k_X10_size ty X hn kn on cu pu gw su an ch cg fb mh ml ih lb ic nn kp se) H := hP
    have hD : va_D A (wW_k_X10_size ty X hn kn on cu pu gw su an ch cg fb mh ml ih lb ic nn kp se) := hD
    refine W.widen (k := 2) (n := 12) (Nat.le_of_ble_eq_true rfl) (Nat.le_of_ble_eq_true rfl) ?_
    obtain ⟨t_9, ht_9⟩ : ∃ t, t = m_k_X9_sizeOf su t_6.2 := ⟨_, rfl⟩
    rw [lE_eq ht_9] at hT
    refine wq_iW (wc := (wW_k_X9_sizeOf ty X hn kn on cu pu gw su an ch cg fb mh ml ih lb ic)) (va_runV (As := [.int t_6.2]) (rest := []) ⟨hx, hb, hml, hown, hts⟩ (k_X9_sizeOf l D ty td mi H.size X hn kn on cu pu gw su an ch cg fb mh ml ih lb ic t_6.2 t_9 ht_9) (cwV 1 hts gv_k_X10_size_1 rfl rfl rfl (by decide +kernel) ⟨(Nat.le_of_ble_eq_true rfl), (Nat.le_of_ble_eq_true rfl)⟩) (wm_V (wm_preS hP hD hK hE hS hA [false, true, true, true, true] rfl) (va_recv (q0 := 4) (ci := 11) hK hP rfl rfl)) rfl rfl hl.1 rfl (lv_room (Nat.le_of_ble_eq_true rfl)) dX10_size_9 ⟨(Nat.le_of_ble_eq_true rfl), (Nat.le_of_ble_eq_true rfl)⟩) hS hA hP hD [false, true, true, true, true] rfl (fun _ _ h => by rcases h with ⟨-, rfl⟩; rfl) (fun r u H locs hw hP hD hS => ?_)
    obtain ⟨hr0, rfl⟩ := hw
    subst r
    have hP : va_P D vwCl (wW_k_X10_size ty X hn kn on cu pu gw su an ch cg fb mh ml ih lb ic nn kp se) H := hP
    have hD : va_D A (wW_k_X10_size ty X hn kn on cu pu gw su an ch cg fb mh ml ih lb ic nn kp se) := hD
    refine W.widen (k := 2) (n := 12) (Nat.le_of_ble_eq_true rfl) (Nat.le_of_ble_eq_true rfl) ?_
    exact END t_9 hT _ _ hP hD hS _ _ dX10_size_12
theorem dX10_cost_0 : decode cX10_cost 0 = .ok (.aload_n 0, 1) := by decide +kernel
theorem dX10_cost_1 : decode cX10_cost 1 = .ok (.iload_n 1, 1) := by decide +kernel
theorem dX10_cost_2 : decode cX10_cost 2 = .ok (.invokevirtual 299, 3) := by decide +kernel
theorem dX10_cost_5 : decode cX10_cost 5 = .ok (.pop, 1) := by decide +kernel
theorem dX10_cost_6 : decode cX10_cost 6 = .ok (.aload_n 0, 1) := by decide +kernel
theorem dX10_cost_7 : decode cX10_cost 7 = .ok (.iload_n 2, 1) := by decide +kernel
theorem dX10_cost_8 : decode cX10_cost 8 = .ok (.invokevirtual 117, 3) := by decide +kernel
theorem dX10_cost_11 : decode cX10_cost 11 = .ok (.aload_n 0, 1) := by decide +kernel
theorem dX10_cost_12 : decode cX10_cost 12 = .ok (.getfield 56, 3) := by decide +kernel
theorem dX10_cost_15 : decode cX10_cost 15 = .ok (.iload_n 1, 1) := by decide +kernel
theorem dX10_cost_16 : decode cX10_cost 16 = .ok (.iload_n 2, 1) := by decide +kernel
theorem dX10_cost_17 : decode cX10_cost 17 = .ok (.invokevirtual 308, 3) := by decide +kernel
theorem dX10_cost_20 : decode cX10_cost 20 = .ok (.lreturn, 1) := by decide +kernel
def wW_k_X10_cost (ty : Nat → ClassId) (X : Nat → Nat) (z9_0 : Int32) (z9_1 : Int32) (z9_2 : Nat → Int32) (z9_3 : Nat → Int64) : va_W := [((X 0), .inr (12, [.ref (X 1), .ref (X 8), .ref (X 20), .ref (X 39), .ref (X 41), .ref (X 43), .ref (X 45)])), ((X 45), .inr (2, [.ref (X 46), .ref (X 47), .int z9_0, .int z9_1])), ((X 46), .inl (ty 0, 64, .inl z9_2)), ((X 47), .inl (ty 1, 192, .inr (.inl z9_3)))]
abbrev r_k_X10_cost : Type := Int32 × Int64
def m_k_X10_cost (nn : Int32) (kp : Int32) (se : Nat → Int32) (co : Nat → Int64) (a1 : Int32) (a2 : Int32) : r_k_X10_cost :=
  lE (m_k_X10_checkedAnswer nn kp se a1) (fun t_2 =>
    if t_2.1 = 0 then
      lE (m_k_X10_checkLevel a2) (fun t_8 =>
        if t_8 = 0 then
          lE (m_k_X0_costAt co a1 a2) (fun t_17 =>
            (0, t_17))
        else
          (2, 0))
    else
      if t_2.1 = 1 then
        (1, 0)
      else
        (3, 0))
def vs_k_X10_cost : List Cond := .code yX10_cost cX10_cost 3 (some .long) :: ([.methodLink RX10 299 yX10_checkedAnswer, .instanceMethod yX10_checkedAnswer, .selects RX10 yX10_checkedAnswer yX10_checkedAnswer, .initialized RX10, .methodLink RX10 117 yX10_checkLevel, .instanceMethod yX10_checkLevel, .selects RX10 yX10_checkLevel yX10_checkLevel, .fieldLink RX10 56 "AnswerFold" "answers" "LAnswerFold$Answers;", .methodLink RX10 308 yX0_costAt, .instanceMethod yX0_costAt, .selects RX0 yX0_costAt yX0_costAt, .initialized RX0] ++ (vs_k_X10_checkedAnswer ++ (vs_k_X10_checkLevel ++ (u_ws RX10 TX10 7 ++ (vs_k_X0_costAt)))))
theorem iv_k_X10_cost_X10 : ∀ w ∈ u_ws RX10 TX10 7, w ∈ vs_k_X10_cost := (fun _ h => List.mem_cons_of_mem _ (List.mem_append_right _ (List.mem_append_right _ (List.mem_append_right _ (List.mem_append_left _ h)))))
set_option maxRecDepth 20000 in
theorem gv_k_X10_cost_0 : GoodIn vs_k_X10_cost (wsV RX10 299 RX10 yX10_checkedAnswer vs_k_X10_checkedAnswer) := goodIn_app (goodIn_sub (by decide +kernel) (by decide +kernel)) (goodIn_sub (fun _ h => List.mem_cons_of_mem _ (List.mem_append_right _ (List.mem_append_left _ h))) (by decide +kernel))
set_option maxRecDepth 20000 in
theorem gv_k_X10_cost_1 : GoodIn vs_k_X10_cost (wsV RX10 117 RX10 yX10_checkLevel vs_k_X10_checkLevel) := goodIn_app (goodIn_sub (by decide +kernel) (by decide +kernel)) (goodIn_sub (fun _ h => List.mem_cons_of_mem _ (List.mem_append_right _ (List.mem_append_right _ (List.mem_append_left _ h)))) (by decide +kernel))
set_option maxRecDepth 20000 in
theorem gv_k_X10_cost_2 : GoodIn vs_k_X10_cost (wsV RX10 308 RX0 yX0_costAt vs_k_X0_costAt) := goodIn_app (goodIn_sub (by decide +kernel) (by decide +kernel)) (goodIn_sub (fun _ h => List.mem_cons_of_mem _ (List.mem_append_right _ (List.mem_append_right _ (List.mem_append_right _ (List.mem_append_right _ (h)))))) (by decide +kernel))
set_option maxHeartbeats 4000000 in
set_option maxRecDepth 100000 in
theorem k_X10_cost (l : Launch) (hl9 : l.stackTraces = false) (D : va_G) (ty : Nat → ClassId) (td mi sz : Nat) (X : Nat → Nat) (nn : Int32) (kp : Int32) (se : Nat → Int32) (co : Nat → Int64) (a1 : Int32) (a2 : Int32) (TT : r_k_X10_cost) (hTT : TT = m_k_X10_cost nn kp se co a1 a2) : vx_Met l yX10_cost vs_k_X10_cost { frames := 8, cells := 3, slots := 18, locals := 123 } (va_Pc [.ref (X 0), .int a1, .int a2] (wq_P D ty td mi (wW_k_X10_cost ty X nn kp se co) sz)) (va_Ql (fun (r : Int64) (u : va_W) => (TT.1 = 0 ∧ r = TT.2 ∧ (u = (wW_k_X10_cost ty X nn kp se co)))) (wq_B D (va_A (wW_k_X10_cost ty X nn kp se co) sz)) (va_A (wW_k_X10_cost ty X nn kp se co) sz)) (vx_X (fun u : String × va_W => (TT.1 = 1 ∧ u = ("java/lang/IndexOutOfBoundsException", (wW_k_X10_cost ty X nn kp se co))) ∨ (TT.1 = 2 ∧ u = ("java/lang/IllegalArgumentException", (wW_k_X10_cost ty X nn kp se co))) ∨ (TT.1 = 3 ∧ u = ("java/lang/IllegalStateException", (wW_k_X10_cost ty X nn kp se co)))) (wq_BX D (va_A (wW_k_X10_cost ty X nn kp se co) sz)) (va_A (wW_k_X10_cost ty X nn kp se co) sz)) 3 18 (va_A (wW_k_X10_cost ty X nn kp se co) sz) := by
  refine vx_ofW (cc := cX10_cost) (maxL := 3) (ret := (some .long)) (by decide) rfl ?_
  intro p e s m args below meth c s₁ B hml hEx hv
  obtain ⟨rfl, hsz, hP, hK, hD0, hE⟩ := hv
  have hx := B.exec
  have hb := B.bytes
  have hr := B.returns
  have hts := atoms_spec (ws := vs_k_X10_cost) B.pre
  have hown : s.vm.findClass RX10 = some m.cls := findClass_of_methodNamed B.named
  have hlocks := B.notSynchronized
  subst hsz
  have hD := hD0.self (sz := s.heap.size)
  generalize hAe : va_A (wW_k_X10_cost ty X nn kp se co) s.heap.size = A at hD hE ⊢
  have hA : ∀ q : Nat, s.heap.size ≤ q → A q := fun q h => by rw [← hAe]; exact Or.inr h
  have hS : va_S A s.heap s.heap [] := va_S.rf
  have hP : va_P D vwCl (wW_k_X10_cost ty X nn kp se co) s.heap := hP
  have hl := lv_entry ([.ref (X 0), .int a1, .int a2]) (n := 3) (Nat.le_of_ble_eq_true rfl)
  rw [lg_entry_eq]
  generalize (lg_sl ([.ref (X 0), .int a1, .int a2]) ++ List.replicate (3 - (lg_sl ([.ref (X 0), .int a1, .int a2])).length) Slot.unset).toArray = ls at hl ⊢
  have hl : lv_has ls 3 [(0, .ref (X 0)), (1, .int a1), (2, .int a2)] := hl
  have END : ∀ (r : Int64), TT = (0, r) → ∀ (H : Heap) (locs : List Loc), va_P D vwCl (wW_k_X10_cost ty X nn kp se co) H → va_D A (wW_k_X10_cost ty X nn kp se co) → va_S A s.heap H locs → ∀ (ls : Array Slot) (pc : Nat), decode cX10_cost pc = .ok (.lreturn, 1) → W p l e (headSpec vs_k_X10_cost { frames := 8, cells := 3, slots := 18, locals := 123 }).room s m ([.ref (X 0), .int a1, .int a2] : List Value).toArray below meth c H locs 3 18 (vx_MQ below (va_Ql (fun (r : Int64) (u : va_W) => (TT.1 = 0 ∧ r = TT.2 ∧ (u = (wW_k_X10_cost ty X nn kp se co)))) (wq_B D A) A) (vx_X (fun u : String × va_W => (TT.1 = 1 ∧ u = ("java/lang/IndexOutOfBoundsException", (wW_k_X10_cost ty X nn kp se co))) ∨ (TT.1 = 2 ∧ u = ("java/lang/IllegalArgumentException", (wW_k_X10_cost ty X nn kp se co))) ∨ (TT.1 = 3 ∧ u = ("java/lang/IllegalStateException", (wW_k_X10_cost ty X nn kp se co)))) (wq_BX D A) A) ([.ref (X 0), .int a1, .int a2] : List Value).toArray s 3 18 A) (F0 m pc ls [.long r]) := by
    intro r hT H locs hP hD hS ls pc hd
    have hM : TT = (0, r) := hT
    refine vx_ret ?_
    exact W.lret (v := r) hx hb hr (fun t ht hW => ⟨⟨r, (wW_k_X10_cost ty X nn kp se co), rfl, ⟨(by rw [hM]), (by rw [hM]), rfl⟩, wq_B.of ht hP hD⟩, hS.F ht⟩) hS.2.2 hd
  have hT := hTT
  rw [m_k_X10_cost] at hT
  refine lv_aload_n hx hb dX10_cost_0 rfl (lv_at hl 0 rfl) ?_
  refine lv_iload_n hx hb dX10_cost_1 rfl (lv_at hl 1 rfl) ?_
  obtain ⟨t_2, ht_2⟩ : ∃ t, t = m_k_X10_checkedAnswer nn kp se a1 := ⟨_, rfl⟩
  rw [lE_eq ht_2] at hT
  refine wq_xiW (wc := (wW_k_X10_checkedAnswer ty X nn kp se)) (vx_runV (As := [.int a1]) (rest := []) ⟨hx, hb, hml, hown, hts⟩ (k_X10_checkedAnswer l hl9 D ty td mi s.heap.size X nn kp se a1 t_2 ht_2) (cwV 1 hts gv_k_X10_cost_0 rfl rfl rfl (by decide +kernel) ⟨(Nat.le_of_ble_eq_true rfl), (Nat.le_of_ble_eq_true rfl)⟩) (wm_V (wm_preS hP hD hK hE hS hA [true, true, true] rfl) (va_recv (q0 := 0) (ci := 12) hK hP rfl rfl)) rfl rfl hl.1 rfl (lv_room (Nat.le_of_ble_eq_true rfl)) dX10_cost_2 ⟨(Nat.le_of_ble_eq_true rfl), (Nat.le_of_ble_eq_true rfl)⟩) hS hA hP hD [true, true, true] rfl (fun _ _ h => by rcases h with ⟨-, -, rfl⟩; rfl) (fun _ _ h => by rcases h with ⟨-, h⟩ | ⟨-, h⟩ <;> (cases h; rfl)) (fun E9 u H locs q9 ce hw hP hD hS hce hcv hcl => ?_) (fun r u H locs hw hP hD hS => ?_)
  · rcases hw with ⟨c_1, hEq⟩ | ⟨c_2, hEq⟩
    · cases hEq
      rw [if_neg (show ¬ t_2.1 = 0 by rw [c_1]; decide)] at hT
      rw [if_pos c_1] at hT
      have hP : va_P D vwCl (wW_k_X10_cost ty X nn kp se co) H := hP
      have hD : va_D A (wW_k_X10_cost ty X nn kp se co) := hD
      refine vx_widen (k := 3) (n := 18) (Nat.le_of_ble_eq_true rfl) (Nat.le_of_ble_eq_true rfl) ?_
      exact vx_out (E := "java/lang/IndexOutOfBoundsException") (fun x hx => (hEx x hx).elim) hlocks hce hcv hcl (fun t ht ha => wq_thrW0 (W := (wW_k_X10_cost ty X nn kp se co)) hS hP hD (by exact (Or.inl ⟨(by rw [hT]), (by first | rw [hT] | rfl)⟩)) ht) hS.2.2 (Nat.le_refl _) (Nat.le_refl _)
    · cases hEq
      rw [if_neg (show ¬ t_2.1 = 0 by rw [c_2]; decide)] at hT
      rw [if_neg (show ¬ t_2.1 = 1 by rw [c_2]; decide)] at hT
      have hP : va_P D vwCl (wW_k_X10_cost ty X nn kp se co) H := hP
      have hD : va_D A (wW_k_X10_cost ty X nn kp se co) := hD
      refine vx_widen (k := 3) (n := 18) (Nat.le_of_ble_eq_true rfl) (Nat.le_of_ble_eq_true rfl) ?_
      exact vx_out (E := "java/lang/IllegalStateException") (fun x hx => (hEx x hx).elim) hlocks hce hcv hcl (fun t ht ha => wq_thrW0 (W := (wW_k_X10_cost ty X nn kp se co)) hS hP hD (by exact (Or.inr (Or.inr ⟨(by rw [hT]), (by first | rw [hT] | rfl)⟩))) ht) hS.2.2 (Nat.le_refl _) (Nat.le_refl _)
  · obtain ⟨c_3, rfl, rfl⟩ := hw
    rw [if_pos c_3] at hT
    have hP : va_P D vwCl (wW_k_X10_cost ty X nn kp se co) H := hP
    have hD : va_D A (wW_k_X10_cost ty X nn kp se co) := hD
    refine W.widen (k := 2) (n := 12) (Nat.le_of_ble_eq_true rfl) (Nat.le_of_ble_eq_true rfl) ?_
    refine lv_pop hx hb dX10_cost_5 rfl ?_
    refine lv_aload_n hx hb dX10_cost_6 rfl (lv_at hl 0 rfl) ?_
    refine lv_iload_n hx hb dX10_cost_7 rfl (lv_at hl 2 rfl) ?_
    obtain ⟨t_8, ht_8⟩ : ∃ t, t = m_k_X10_checkLevel a2 := ⟨_, rfl⟩
    rw [lE_eq ht_8] at hT
    refine wq_xvW (wc := []) (vx_runV (As := [.int a2]) (rest := []) ⟨hx, hb, hml, hown, hts⟩ (k_X10_checkLevel l hl9 D ty td mi H.size X a2 t_8 ht_8) (cwV 1 hts gv_k_X10_cost_1 rfl rfl rfl (by decide +kernel) ⟨(Nat.le_of_ble_eq_true rfl), (Nat.le_of_ble_eq_true rfl)⟩) (wm_V (wm_preS hP hD hK hE hS hA [] rfl) (va_recv (q0 := 0) (ci := 12) hK hP rfl rfl)) rfl rfl hl.1 rfl (lv_room (Nat.le_of_ble_eq_true rfl)) dX10_cost_8 ⟨(Nat.le_of_ble_eq_true rfl), (Nat.le_of_ble_eq_true rfl)⟩) hS hA hP hD [] rfl (fun _ h => by rcases h with ⟨-, rfl⟩; rfl) (fun _ _ h => by rcases h with ⟨-, h⟩ <;> (cases h; rfl)) (fun E9 u H locs q9 ce hw hP hD hS hce hcv hcl => ?_) (fun u H locs hw hP hD hS => ?_)
    · obtain ⟨c_5, hEq⟩ := hw
      cases hEq
      rw [if_neg (show ¬ t_8 = 0 by rw [c_5]; decide)] at hT
      have hP : va_P D vwCl (wW_k_X10_cost ty X nn kp se co) H := hP
      have hD : va_D A (wW_k_X10_cost ty X nn kp se co) := hD
      refine vx_widen (k := 3) (n := 18) (Nat.le_of_ble_eq_true rfl) (Nat.le_of_ble_eq_true rfl) ?_
      exact vx_out (E := "java/lang/IllegalArgumentException") (fun x hx => (hEx x hx).elim) hlocks hce hcv hcl (fun t ht ha => wq_thrW0 (W := (wW_k_X10_cost ty X nn kp se co)) hS hP hD (by exact (Or.inr (Or.inl ⟨(by rw [hT]), (by first | rw [hT] | rfl)⟩))) ht) hS.2.2 (Nat.le_refl _) (Nat.le_refl _)
    · obtain ⟨c_6, rfl⟩ := hw
      rw [if_pos c_6] at hT
      have hP : va_P D vwCl (wW_k_X10_cost ty X nn kp se co) H := hP
      have hD : va_D A (wW_k_X10_cost ty X nn kp se co) := hD
      refine W.widen (k := 3) (n := 18) (Nat.le_of_ble_eq_true rfl) (Nat.le_of_ble_eq_true rfl) ?_
      refine lv_aload_n hx hb dX10_cost_11 rfl (lv_at hl 0 rfl) ?_
      refine va_get (D := D) (ci := 12) (v := .ref (X 45)) (C := RX10) (T := TX10) (N := 7) hx hb hts iv_k_X10_cost_X10 hown hK hP 0 rfl rfl 6 (by decide) (hts (.fieldLink RX10 56 "AnswerFold" "answers" "LAnswerFold$Answers;") (by decide +kernel)) (fun _ h9 => h9) rfl dX10_cost_12 ?_
      refine lv_iload_n hx hb dX10_cost_15 rfl (lv_at hl 1 rfl) ?_
      refine lv_iload_n hx hb dX10_cost_16 rfl (lv_at hl 2 rfl) ?_
      obtain ⟨t_17, ht_17⟩ : ∃ t, t = m_k_X0_costAt co a1 a2 := ⟨_, rfl⟩
      rw [lE_eq ht_17] at hT
      refine wq_lW (wc := (wW_k_X0_costAt ty (X 45) (X 46) (X 47) nn kp co)) (va_runV (As := [.int a1, .int a2]) (rest := []) ⟨hx, hb, hml, hown, hts⟩ (k_X0_costAt l D ty td mi H.size (X 45) (X 46) (X 47) nn kp co a1 a2 t_17 ht_17) (cwV 2 hts gv_k_X10_cost_2 rfl rfl rfl (by decide +kernel) ⟨(Nat.le_of_ble_eq_true rfl), (Nat.le_of_ble_eq_true rfl)⟩) (wm_V (wm_preS hP hD hK hE hS hA [false, true, false, true] rfl) (va_recv (q0 := 1) (ci := 2) hK hP rfl rfl)) rfl rfl hl.1 rfl (lv_room (Nat.le_of_ble_eq_true rfl)) dX10_cost_17 ⟨(Nat.le_of_ble_eq_true rfl), (Nat.le_of_ble_eq_true rfl)⟩) hS hA hP hD [false, true, false, true] rfl (fun _ _ h => by rcases h with ⟨-, rfl⟩; rfl) (fun r u H locs hw hP hD hS => ?_)
      obtain ⟨hr0, rfl⟩ := hw
      subst r
      have hP : va_P D vwCl (wW_k_X10_cost ty X nn kp se co) H := hP
      have hD : va_D A (wW_k_X10_cost ty X nn kp se co) := hD
      refine W.widen (k := 3) (n := 18) (Nat.le_of_ble_eq_true rfl) (Nat.le_of_ble_eq_true rfl) ?_
      exact END t_17 hT _ _ hP hD hS _ _ dX10_cost_20
theorem dX10_best_0 : decode cX10_best 0 = .ok (.aload_n 0, 1) := by decide +kernel
theorem dX10_best_1 : decode cX10_best 1 = .ok (.invokevirtual 312, 3) := by decide +kernel
theorem dX10_best_4 : decode cX10_best 4 = .ok (.aload_n 0, 1) := by decide +kernel
theorem dX10_best_5 : decode cX10_best 5 = .ok (.getfield 56, 3) := by decide +kernel
theorem dX10_best_8 : decode cX10_best 8 = .ok (.invokevirtual 315, 3) := by decide +kernel
theorem dX10_best_11 : decode cX10_best 11 = .ok (.ireturn, 1) := by decide +kernel
def wW_k_X10_best (ty : Nat → ClassId) (X : Nat → Nat) (z9_0 : Int32) (z9_1 : Int32) (z9_2 : Nat → Int64) : va_W := [((X 0), .inr (12, [.ref (X 1), .ref (X 8), .ref (X 20), .ref (X 39), .ref (X 41), .ref (X 43), .ref (X 45)])), ((X 45), .inr (2, [.ref (X 46), .ref (X 47), .int z9_0, .int z9_1])), ((X 47), .inl (ty 1, 192, .inr (.inl z9_2)))]
abbrev r_k_X10_best : Type := Int32 × Int32
def m_k_X10_best (nn : Int32) (kp : Int32) (co : Nat → Int64) : r_k_X10_best :=
  lE (m_k_X10_checkWalk kp) (fun t_1 =>
    if t_1 = 0 then
      lE (m_k_X0_countBest nn co) (fun t_8 =>
        (0, t_8))
    else
      (3, 0))
def vs_k_X10_best : List Cond := .code yX10_best cX10_best 1 (some .int) :: ([.methodLink RX10 312 yX10_checkWalk, .instanceMethod yX10_checkWalk, .selects RX10 yX10_checkWalk yX10_checkWalk, .initialized RX10, .fieldLink RX10 56 "AnswerFold" "answers" "LAnswerFold$Answers;", .methodLink RX10 315 yX0_countBest, .instanceMethod yX0_countBest, .selects RX0 yX0_countBest yX0_countBest, .initialized RX0] ++ (vs_k_X10_checkWalk ++ (u_ws RX10 TX10 7 ++ (vs_k_X0_countBest))))
theorem iv_k_X10_best_X10 : ∀ w ∈ u_ws RX10 TX10 7, w ∈ vs_k_X10_best := (fun _ h => List.mem_cons_of_mem _ (List.mem_append_right _ (List.mem_append_right _ (List.mem_append_left _ h))))
set_option maxRecDepth 20000 in
theorem gv_k_X10_best_0 : GoodIn vs_k_X10_best (wsV RX10 312 RX10 yX10_checkWalk vs_k_X10_checkWalk) := goodIn_app (goodIn_sub (by decide +kernel) (by decide +kernel)) (goodIn_sub (fun _ h => List.mem_cons_of_mem _ (List.mem_append_right _ (List.mem_append_left _ h))) (by decide +kernel))
set_option maxRecDepth 20000 in
theorem gv_k_X10_best_1 : GoodIn vs_k_X10_best (wsV RX10 315 RX0 yX0_countBest vs_k_X0_countBest) := goodIn_app (goodIn_sub (by decide +kernel) (by decide +kernel)) (goodIn_sub (fun _ h => List.mem_cons_of_mem _ (List.mem_append_right _ (List.mem_append_right _ (List.mem_append_right _ (h))))) (by decide +kernel))
set_option maxHeartbeats 4000000 in
set_option maxRecDepth 100000 in
theorem k_X10_best (l : Launch) (hl9 : l.stackTraces = false) (D : va_G) (ty : Nat → ClassId) (td mi sz : Nat) (X : Nat → Nat) (nn : Int32) (kp : Int32) (co : Nat → Int64) (TT : r_k_X10_best) (hTT : TT = m_k_X10_best nn kp co) : vx_Met l yX10_best vs_k_X10_best { frames := 7, cells := 1, slots := 6, locals := 102 } (va_Pc [.ref (X 0)] (wq_P D ty td mi (wW_k_X10_best ty X nn kp co) sz)) (va_Qi (fun (r : Int32) (u : va_W) => (TT.1 = 0 ∧ r = TT.2 ∧ (u = (wW_k_X10_best ty X nn kp co)))) (wq_B D (va_A (wW_k_X10_best ty X nn kp co) sz)) (va_A (wW_k_X10_best ty X nn kp co) sz)) (vx_X (fun u : String × va_W => (TT.1 = 3 ∧ u = ("java/lang/IllegalStateException", (wW_k_X10_best ty X nn kp co)))) (wq_BX D (va_A (wW_k_X10_best ty X nn kp co) sz)) (va_A (wW_k_X10_best ty X nn kp co) sz)) 1 6 (va_A (wW_k_X10_best ty X nn kp co) sz) := by
  refine vx_ofW (cc := cX10_best) (maxL := 1) (ret := (some .int)) (by decide) rfl ?_
  intro p e s m args below meth c s₁ B hml hEx hv
  obtain ⟨rfl, hsz, hP, hK, hD0, hE⟩ := hv
  have hx := B.exec
  have hb := B.bytes
  have hr := B.returns
  have hts := atoms_spec (ws := vs_k_X10_best) B.pre
  have hown : s.vm.findClass RX10 = some m.cls := findClass_of_methodNamed B.named
  have hlocks := B.notSynchronized
  subst hsz
  have hD := hD0.self (sz := s.heap.size)
  generalize hAe : va_A (wW_k_X10_best ty X nn kp co) s.heap.size = A at hD hE ⊢
  have hA : ∀ q : Nat, s.heap.size ≤ q → A q := fun q h => by rw [← hAe]; exact Or.inr h
  have hS : va_S A s.heap s.heap [] := va_S.rf
  have hP : va_P D vwCl (wW_k_X10_best ty X nn kp co) s.heap := hP
  have hl := lv_entry ([.ref (X 0)]) (n := 1) (Nat.le_of_ble_eq_true rfl)
  rw [lg_entry_eq]
  generalize (lg_sl ([.ref (X 0)]) ++ List.replicate (1 - (lg_sl ([.ref (X 0)])).length) Slot.unset).toArray = ls at hl ⊢
  have hl : lv_has ls 1 [(0, .ref (X 0))] := hl
  have END : ∀ (r : Int32), TT = (0, r) → ∀ (H : Heap) (locs : List Loc), va_P D vwCl (wW_k_X10_best ty X nn kp co) H → va_D A (wW_k_X10_best ty X nn kp co) → va_S A s.heap H locs → ∀ (ls : Array Slot) (pc : Nat), decode cX10_best pc = .ok (.ireturn, 1) → W p l e (headSpec vs_k_X10_best { frames := 7, cells := 1, slots := 6, locals := 102 }).room s m ([.ref (X 0)] : List Value).toArray below meth c H locs 1 6 (vx_MQ below (va_Qi (fun (r : Int32) (u : va_W) => (TT.1 = 0 ∧ r = TT.2 ∧ (u = (wW_k_X10_best ty X nn kp co)))) (wq_B D A) A) (vx_X (fun u : String × va_W => (TT.1 = 3 ∧ u = ("java/lang/IllegalStateException", (wW_k_X10_best ty X nn kp co)))) (wq_BX D A) A) ([.ref (X 0)] : List Value).toArray s 1 6 A) (F0 m pc ls [.int r]) := by
    intro r hT H locs hP hD hS ls pc hd
    have hM : TT = (0, r) := hT
    refine vx_ret ?_
    exact W.iret (v := r) hx hb hr (fun t ht hW => ⟨⟨r, (wW_k_X10_best ty X nn kp co), rfl, ⟨(by rw [hM]), (by rw [hM]), rfl⟩, wq_B.of ht hP hD⟩, hS.F ht⟩) hS.2.2 hd
  have hT := hTT
  rw [m_k_X10_best] at hT
  refine lv_aload_n hx hb dX10_best_0 rfl (lv_at hl 0 rfl) ?_
  obtain ⟨t_1, ht_1⟩ : ∃ t, t = m_k_X10_checkWalk kp := ⟨_, rfl⟩
  rw [lE_eq ht_1] at hT
  refine wq_xvW (wc := (wW_k_X10_checkWalk ty X nn kp)) (vx_runV (As := []) (rest := []) ⟨hx, hb, hml, hown, hts⟩ (k_X10_checkWalk l hl9 D ty td mi s.heap.size X nn kp t_1 ht_1) (cwV 0 hts gv_k_X10_best_0 rfl rfl rfl (by decide +kernel) ⟨(Nat.le_of_ble_eq_true rfl), (Nat.le_of_ble_eq_true rfl)⟩) (wm_V (wm_preS hP hD hK hE hS hA [true, true] rfl) (va_recv (q0 := 0) (ci := 12) hK hP rfl rfl)) rfl rfl hl.1 rfl (lv_room (Nat.le_of_ble_eq_true rfl)) dX10_best_1 ⟨(Nat.le_of_ble_eq_true rfl), (Nat.le_of_ble_eq_true rfl)⟩) hS hA hP hD [true, true] rfl (fun _ h => by rcases h with ⟨-, rfl⟩; rfl) (fun _ _ h => by rcases h with ⟨-, h⟩ <;> (cases h; rfl)) (fun E9 u H locs q9 ce hw hP hD hS hce hcv hcl => ?_) (fun u H locs hw hP hD hS => ?_)
  · obtain ⟨c_1, hEq⟩ := hw
    cases hEq
    rw [if_neg (show ¬ t_1 = 0 by rw [c_1]; decide)] at hT
    have hP : va_P D vwCl (wW_k_X10_best ty X nn kp co) H := hP
    have hD : va_D A (wW_k_X10_best ty X nn kp co) := hD
    refine vx_widen (k := 1) (n := 6) (Nat.le_of_ble_eq_true rfl) (Nat.le_of_ble_eq_true rfl) ?_
    exact vx_out (E := "java/lang/IllegalStateException") (fun x hx => (hEx x hx).elim) hlocks hce hcv hcl (fun t ht ha => wq_thrW0 (W := (wW_k_X10_best ty X nn kp co)) hS hP hD (by exact ⟨(by rw [hT]), (by first | rw [hT] | rfl)⟩) ht) hS.2.2 (Nat.le_refl _) (Nat.le_refl _)
  · obtain ⟨c_2, rfl⟩ := hw
    rw [if_pos c_2] at hT
    have hP : va_P D vwCl (wW_k_X10_best ty X nn kp co) H := hP
    have hD : va_D A (wW_k_X10_best ty X nn kp co) := hD
    refine W.widen (k := 1) (n := 6) (Nat.le_of_ble_eq_true rfl) (Nat.le_of_ble_eq_true rfl) ?_
    refine lv_aload_n hx hb dX10_best_4 rfl (lv_at hl 0 rfl) ?_
    refine va_get (D := D) (ci := 12) (v := .ref (X 45)) (C := RX10) (T := TX10) (N := 7) hx hb hts iv_k_X10_best_X10 hown hK hP 0 rfl rfl 6 (by decide) (hts (.fieldLink RX10 56 "AnswerFold" "answers" "LAnswerFold$Answers;") (by decide +kernel)) (fun _ h9 => h9) rfl dX10_best_5 ?_
    obtain ⟨t_8, ht_8⟩ : ∃ t, t = m_k_X0_countBest nn co := ⟨_, rfl⟩
    rw [lE_eq ht_8] at hT
    refine wq_iW (wc := (wW_k_X0_countBest ty (X 45) (X 46) (X 47) nn kp co)) (va_runV (As := []) (rest := []) ⟨hx, hb, hml, hown, hts⟩ (k_X0_countBest l D ty td mi H.size (X 45) (X 46) (X 47) nn kp co t_8 ht_8) (cwV 0 hts gv_k_X10_best_1 rfl rfl rfl (by decide +kernel) ⟨(Nat.le_of_ble_eq_true rfl), (Nat.le_of_ble_eq_true rfl)⟩) (wm_V (wm_preS hP hD hK hE hS hA [false, true, true] rfl) (va_recv (q0 := 1) (ci := 2) hK hP rfl rfl)) rfl rfl hl.1 rfl (lv_room (Nat.le_of_ble_eq_true rfl)) dX10_best_8 ⟨(Nat.le_of_ble_eq_true rfl), (Nat.le_of_ble_eq_true rfl)⟩) hS hA hP hD [false, true, true] rfl (fun _ _ h => by rcases h with ⟨-, rfl⟩; rfl) (fun r u H locs hw hP hD hS => ?_)
    obtain ⟨hr0, rfl⟩ := hw
    subst r
    have hP : va_P D vwCl (wW_k_X10_best ty X nn kp co) H := hP
    have hD : va_D A (wW_k_X10_best ty X nn kp co) := hD
    refine W.widen (k := 1) (n := 6) (Nat.le_of_ble_eq_true rfl) (Nat.le_of_ble_eq_true rfl) ?_
    exact END t_8 hT _ _ hP hD hS _ _ dX10_best_11
theorem dX10_projected_0 : decode cX10_projected 0 = .ok (.aload_n 0, 1) := by decide +kernel
theorem dX10_projected_1 : decode cX10_projected 1 = .ok (.invokevirtual 312, 3) := by decide +kernel
theorem dX10_projected_4 : decode cX10_projected 4 = .ok (.aload_n 0, 1) := by decide +kernel
theorem dX10_projected_5 : decode cX10_projected 5 = .ok (.getfield 12, 3) := by decide +kernel
theorem dX10_projected_8 : decode cX10_projected 8 = .ok (.iload_n 1, 1) := by decide +kernel
theorem dX10_projected_9 : decode cX10_projected 9 = .ok (.invokevirtual 130, 3) := by decide +kernel
theorem dX10_projected_12 : decode cX10_projected 12 = .ok (.ifCond .ne 14, 3) := by decide +kernel
theorem dX10_projected_15 : decode cX10_projected 15 = .ok (.new 134, 3) := by decide +kernel
theorem dX10_projected_18 : decode cX10_projected 18 = .ok (.dup, 1) := by decide +kernel
theorem dX10_projected_19 : decode cX10_projected 19 = .ok (.ldc_w 318, 3) := by decide +kernel
theorem dX10_projected_22 : decode cX10_projected 22 = .ok (.invokespecial 138, 3) := by decide +kernel
theorem dX10_projected_25 : decode cX10_projected 25 = .ok (.athrow, 1) := by decide +kernel
theorem dX10_projected_26 : decode cX10_projected 26 = .ok (.aload_n 0, 1) := by decide +kernel
theorem dX10_projected_27 : decode cX10_projected 27 = .ok (.getfield 56, 3) := by decide +kernel
theorem dX10_projected_30 : decode cX10_projected 30 = .ok (.aload_n 0, 1) := by decide +kernel
theorem dX10_projected_31 : decode cX10_projected 31 = .ok (.getfield 30, 3) := by decide +kernel
theorem dX10_projected_34 : decode cX10_projected 34 = .ok (.iload_n 1, 1) := by decide +kernel
theorem dX10_projected_35 : decode cX10_projected 35 = .ok (.invokevirtual 320, 3) := by decide +kernel
theorem dX10_projected_38 : decode cX10_projected 38 = .ok (.invokevirtual 323, 3) := by decide +kernel
theorem dX10_projected_41 : decode cX10_projected 41 = .ok (.ireturn, 1) := by decide +kernel
def wW_k_X10_projected (ty : Nat → ClassId) (X : Nat → Nat) (z9_0 : Int32) (z9_1 : Int32) (z9_2 : Int32) (z9_3 : Int32) (z9_4 : Int32) (z9_5 : Int32) (z9_6 : Int32) (z9_7 : Int32) (z9_8 : Int32) (z9_9 : Int32) (z9_10 : Int32) (z9_11 : Int32) (z9_12 : Int32) (z9_13 : Nat → Int32) (z9_14 : Int32) (z9_15 : Int32) (z9_16 : Nat → Int32) : va_W := [((X 0), .inr (12, [.ref (X 1), .ref (X 8), .ref (X 20), .ref (X 39), .ref (X 41), .ref (X 43), .ref (X 45)])), ((X 1), .inr (8, [.ref (X 2), .int z9_0, .ref (X 3), .int z9_1, .ref (X 4), .ref (X 5), .int z9_2, .ref (X 6), .ref (X 7), .int z9_3])), ((X 20), .inr (11, [.ref (X 1), .ref (X 8), .ref (X 21), .ref (X 28), .ref (X 35), .int z9_4, .ref (X 36), .ref (X 37), .ref (X 38), .int z9_5, .int z9_6, .int z9_7, .int z9_8, .int z9_9, .int z9_10, .int z9_11, .int z9_12])), ((X 36), .inl (ty 0, 6, .inl z9_13)), ((X 45), .inr (2, [.ref (X 46), .ref (X 47), .int z9_14, .int z9_15])), ((X 46), .inl (ty 0, 64, .inl z9_16))]
abbrev r_k_X10_projected : Type := Int32 × Int32
def m_k_X10_projected (pn : Int32) (obi : Nat → Int32) (nn : Int32) (kp : Int32) (se : Nat → Int32) (a1 : Int32) : r_k_X10_projected :=
  lE (m_k_X10_checkWalk kp) (fun t_1 =>
    if t_1 = 0 then
      lE (m_k_X6_hasPredicate pn a1) (fun t_9 =>
        if t_9 = 0 then
          (1, 0)
        else
          lE (m_k_X9_openBitsOf obi a1) (fun t_35 =>
            lE (m_k_X0_countDifferent nn se t_35) (fun t_38 =>
              (0, t_38))))
    else
      (3, 0))
def vs_k_X10_projected : List Cond := .code yX10_projected cX10_projected 2 (some .int) :: ([.methodLink RX10 312 yX10_checkWalk, .instanceMethod yX10_checkWalk, .selects RX10 yX10_checkWalk yX10_checkWalk, .initialized RX10, .fieldLink RX10 12 "AnswerFold" "program" "LAnswerFold$Program;", .methodLink RX10 130 yX6_hasPredicate, .instanceMethod yX6_hasPredicate, .selects RX6 yX6_hasPredicate yX6_hasPredicate, .initialized RX6, .fieldLink RX10 56 "AnswerFold" "answers" "LAnswerFold$Answers;", .fieldLink RX10 30 "AnswerFold" "solver" "LAnswerFold$Solver;", .methodLink RX10 320 yX9_openBitsOf, .instanceMethod yX9_openBitsOf, .selects RX9 yX9_openBitsOf yX9_openBitsOf, .initialized RX9, .methodLink RX10 323 yX0_countDifferent, .instanceMethod yX0_countDifferent, .selects RX0 yX0_countDifferent yX0_countDifferent, .initialized RX0, .classLink RX10 134 "java/lang/IndexOutOfBoundsException", .initialized "java/lang/IndexOutOfBoundsException"] ++ (vs_k_X10_checkWalk ++ (u_ws RX10 TX10 7 ++ (vs_k_X6_hasPredicate ++ (vs_k_X9_openBitsOf ++ (vs_k_X0_countDifferent ++ ((vx_atS RX10 138 "java/lang/IndexOutOfBoundsException" ["java/lang/RuntimeException", "java/lang/Exception"]).filter goodWord)))))))
theorem iv_k_X10_projected_X10 : ∀ w ∈ u_ws RX10 TX10 7, w ∈ vs_k_X10_projected := (fun _ h => List.mem_cons_of_mem _ (List.mem_append_right _ (List.mem_append_right _ (List.mem_append_left _ h))))
set_option maxRecDepth 20000 in
theorem gv_k_X10_projected_0 : GoodIn vs_k_X10_projected (wsV RX10 312 RX10 yX10_checkWalk vs_k_X10_checkWalk) := goodIn_app (goodIn_sub (by decide +kernel) (by decide +kernel)) (goodIn_sub (fun _ h => List.mem_cons_of_mem _ (List.mem_append_right _ (List.mem_append_left _ h))) (by decide +kernel))
set_option maxRecDepth 20000 in
theorem gv_k_X10_projected_1 : GoodIn vs_k_X10_projected (wsV RX10 130 RX6 yX6_hasPredicate vs_k_X6_hasPredicate) := goodIn_app (goodIn_sub (by decide +kernel) (by decide +kernel)) (goodIn_sub (fun _ h => List.mem_cons_of_mem _ (List.mem_append_right _ (List.mem_append_right _ (List.mem_append_right _ (List.mem_append_left _ h))))) (by decide +kernel))
set_option maxRecDepth 20000 in
theorem gv_k_X10_projected_2 : GoodIn vs_k_X10_projected (wsV RX10 320 RX9 yX9_openBitsOf vs_k_X9_openBitsOf) := goodIn_app (goodIn_sub (by decide +kernel) (by decide +kernel)) (goodIn_sub (fun _ h => List.mem_cons_of_mem _ (List.mem_append_right _ (List.mem_append_right _ (List.mem_append_right _ (List.mem_append_right _ (List.mem_append_left _ h)))))) (by decide +kernel))
set_option maxRecDepth 20000 in
theorem gv_k_X10_projected_3 : GoodIn vs_k_X10_projected (wsV RX10 323 RX0 yX0_countDifferent vs_k_X0_countDifferent) := goodIn_app (goodIn_sub (by decide +kernel) (by decide +kernel)) (goodIn_sub (fun _ h => List.mem_cons_of_mem _ (List.mem_append_right _ (List.mem_append_right _ (List.mem_append_right _ (List.mem_append_right _ (List.mem_append_right _ (List.mem_append_left _ h))))))) (by decide +kernel))
theorem ix_k_X10_projected_138 : ∀ w ∈ (vx_atS RX10 138 "java/lang/IndexOutOfBoundsException" ["java/lang/RuntimeException", "java/lang/Exception"]).filter goodWord, w ∈ vs_k_X10_projected := (fun _ h => List.mem_cons_of_mem _ (List.mem_append_right _ (List.mem_append_right _ (List.mem_append_right _ (List.mem_append_right _ (List.mem_append_right _ (List.mem_append_right _ (h))))))))
set_option maxHeartbeats 4000000 in
set_option maxRecDepth 100000 in
theorem k_X10_projected (l : Launch) (hl9 : l.stackTraces = false) (D : va_G) (ty : Nat → ClassId) (td mi sz : Nat) (X : Nat → Nat) (pn : Int32) (rn : Int32) (tn : Int32) (en : Int32) (an : Int32) (ch : Int32) (cg : Int32) (fb : Int32) (mh : Int32) (ml : Int32) (ih : Int32) (lb : Int32) (ic : Int32) (obi : Nat → Int32) (nn : Int32) (kp : Int32) (se : Nat → Int32) (a1 : Int32) (TT : r_k_X10_projected) (hTT : TT = m_k_X10_projected pn obi nn kp se a1) : vx_Met l yX10_projected vs_k_X10_projected { frames := 7, cells := 2, slots := 12, locals := 102 } (va_Pc [.ref (X 0), .int a1] (wq_P D ty td mi (wW_k_X10_projected ty X pn rn tn en an ch cg fb mh ml ih lb ic obi nn kp se) sz)) (va_Qi (fun (r : Int32) (u : va_W) => (TT.1 = 0 ∧ r = TT.2 ∧ (u = (wW_k_X10_projected ty X pn rn tn en an ch cg fb mh ml ih lb ic obi nn kp se)))) (wq_B D (va_A (wW_k_X10_projected ty X pn rn tn en an ch cg fb mh ml ih lb ic obi nn kp se) sz)) (va_A (wW_k_X10_projected ty X pn rn tn en an ch cg fb mh ml ih lb ic obi nn kp se) sz)) (vx_X (fun u : String × va_W => (TT.1 = 1 ∧ u = ("java/lang/IndexOutOfBoundsException", (wW_k_X10_projected ty X pn rn tn en an ch cg fb mh ml ih lb ic obi nn kp se))) ∨ (TT.1 = 3 ∧ u = ("java/lang/IllegalStateException", (wW_k_X10_projected ty X pn rn tn en an ch cg fb mh ml ih lb ic obi nn kp se)))) (wq_BX D (va_A (wW_k_X10_projected ty X pn rn tn en an ch cg fb mh ml ih lb ic obi nn kp se) sz)) (va_A (wW_k_X10_projected ty X pn rn tn en an ch cg fb mh ml ih lb ic obi nn kp se) sz)) 2 12 (va_A (wW_k_X10_projected ty X pn rn tn en an ch cg fb mh ml ih lb ic obi nn kp se) sz) := by
  refine vx_ofW (cc := cX10_projected) (maxL := 2) (ret := (some .int)) (by decide) rfl ?_
  intro p e s m args below meth c s₁ B hml hEx hv
  obtain ⟨rfl, hsz, hP, hK, hD0, hE⟩ := hv
  have hx := B.exec
  have hb := B.bytes
  have hr := B.returns
  have hts := atoms_spec (ws := vs_k_X10_projected) B.pre
  have hown : s.vm.findClass RX10 = some m.cls := findClass_of_methodNamed B.named
  have hlocks := B.notSynchronized
  subst hsz
  have hD := hD0.self (sz := s.heap.size)
  generalize hAe : va_A (wW_k_X10_projected ty X pn rn tn en an ch cg fb mh ml ih lb ic obi nn kp se) s.heap.size = A at hD hE ⊢
  have hA : ∀ q : Nat, s.heap.size ≤ q → A q := fun q h => by rw [← hAe]; exact Or.inr h
  have hS : va_S A s.heap s.heap [] := va_S.rf
  have hP : va_P D vwCl (wW_k_X10_projected ty X pn rn tn en an ch cg fb mh ml ih lb ic obi nn kp se) s.heap := hP
  have hl := lv_entry ([.ref (X 0), .int a1]) (n := 2) (Nat.le_of_ble_eq_true rfl)
  rw [lg_entry_eq]
  generalize (lg_sl ([.ref (X 0), .int a1]) ++ List.replicate (2 - (lg_sl ([.ref (X 0), .int a1])).length) Slot.unset).toArray = ls at hl ⊢
  have hl : lv_has ls 2 [(0, .ref (X 0)), (1, .int a1)] := hl
  have END : ∀ (r : Int32), TT = (0, r) → ∀ (H : Heap) (locs : List Loc), va_P D vwCl (wW_k_X10_projected ty X pn rn tn en an ch cg fb mh ml ih lb ic obi nn kp se) H → va_D A (wW_k_X10_projected ty X pn rn tn en an ch cg fb mh ml ih lb ic obi nn kp se) → va_S A s.heap H locs → ∀ (ls : Array Slot) (pc : Nat), decode cX10_projected pc = .ok (.ireturn, 1) → W p l e (headSpec vs_k_X10_projected { frames := 7, cells := 2, slots := 12, locals := 102 }).room s m ([.ref (X 0), .int a1] : List Value).toArray below meth c H locs 2 12 (vx_MQ below (va_Qi (fun (r : Int32) (u : va_W) => (TT.1 = 0 ∧ r = TT.2 ∧ (u = (wW_k_X10_projected ty X pn rn tn en an ch cg fb mh ml ih lb ic obi nn kp se)))) (wq_B D A) A) (vx_X (fun u : String × va_W => (TT.1 = 1 ∧ u = ("java/lang/IndexOutOfBoundsException", (wW_k_X10_projected ty X pn rn tn en an ch cg fb mh ml ih lb ic obi nn kp se))) ∨ (TT.1 = 3 ∧ u = ("java/lang/IllegalStateException", (wW_k_X10_projected ty X pn rn tn en an ch cg fb mh ml ih lb ic obi nn kp se)))) (wq_BX D A) A) ([.ref (X 0), .int a1] : List Value).toArray s 2 12 A) (F0 m pc ls [.int r]) := by
    intro r hT H locs hP hD hS ls pc hd
    have hM : TT = (0, r) := hT
    refine vx_ret ?_
    exact W.iret (v := r) hx hb hr (fun t ht hW => ⟨⟨r, (wW_k_X10_projected ty X pn rn tn en an ch cg fb mh ml ih lb ic obi nn kp se), rfl, ⟨(by rw [hM]), (by rw [hM]), rfl⟩, wq_B.of ht hP hD⟩, hS.F ht⟩) hS.2.2 hd
  have hT := hTT
  rw [m_k_X10_projected] at hT
  refine lv_aload_n hx hb dX10_projected_0 rfl (lv_at hl 0 rfl) ?_
  obtain ⟨t_1, ht_1⟩ : ∃ t, t = m_k_X10_checkWalk kp := ⟨_, rfl⟩
  rw [lE_eq ht_1] at hT
  refine wq_xvW (wc := (wW_k_X10_checkWalk ty X nn kp)) (vx_runV (As := []) (rest := []) ⟨hx, hb, hml, hown, hts⟩ (k_X10_checkWalk l hl9 D ty td mi s.heap.size X nn kp t_1 ht_1) (cwV 0 hts gv_k_X10_projected_0 rfl rfl rfl (by decide +kernel) ⟨(Nat.le_of_ble_eq_true rfl), (Nat.le_of_ble_eq_true rfl)⟩) (wm_V (wm_preS hP hD hK hE hS hA [true, false, false, false, true] rfl) (va_recv (q0 := 0) (ci := 12) hK hP rfl rfl)) rfl rfl hl.1 rfl (lv_room (Nat.le_of_ble_eq_true rfl)) dX10_projected_1 ⟨(Nat.le_of_ble_eq_true rfl), (Nat.le_of_ble_eq_true rfl)⟩) hS hA hP hD [true, false, false, false, true] rfl (fun _ h => by rcases h with ⟨-, rfl⟩; rfl) (fun _ _ h => by rcases h with ⟨-, h⟩ <;> (cases h; rfl)) (fun E9 u H locs q9 ce hw hP hD hS hce hcv hcl => ?_) (fun u H locs hw hP hD hS => ?_)
  · obtain ⟨c_1, hEq⟩ := hw
    cases hEq
    rw [if_neg (show ¬ t_1 = 0 by rw [c_1]; decide)] at hT
    have hP : va_P D vwCl (wW_k_X10_projected ty X pn rn tn en an ch cg fb mh ml ih lb ic obi nn kp se) H := hP
    have hD : va_D A (wW_k_X10_projected ty X pn rn tn en an ch cg fb mh ml ih lb ic obi nn kp se) := hD
    refine vx_widen (k := 2) (n := 12) (Nat.le_of_ble_eq_true rfl) (Nat.le_of_ble_eq_true rfl) ?_
    exact vx_out (E := "java/lang/IllegalStateException") (fun x hx => (hEx x hx).elim) hlocks hce hcv hcl (fun t ht ha => wq_thrW0 (W := (wW_k_X10_projected ty X pn rn tn en an ch cg fb mh ml ih lb ic obi nn kp se)) hS hP hD (by exact (Or.inr ⟨(by rw [hT]), (by first | rw [hT] | rfl)⟩)) ht) hS.2.2 (Nat.le_refl _) (Nat.le_refl _)
  · obtain ⟨c_2, rfl⟩ := hw
    rw [if_pos c_2] at hT
    have hP : va_P D vwCl (wW_k_X10_projected ty X pn rn tn en an ch cg fb mh ml ih lb ic obi nn kp se) H := hP
    have hD : va_D A (wW_k_X10_projected ty X pn rn tn en an ch cg fb mh ml ih lb ic obi nn kp se) := hD
    refine W.widen (k := 1) (n := 6) (Nat.le_of_ble_eq_true rfl) (Nat.le_of_ble_eq_true rfl) ?_
    refine lv_aload_n hx hb dX10_projected_4 rfl (lv_at hl 0 rfl) ?_
    refine va_get (D := D) (ci := 12) (v := .ref (X 1)) (C := RX10) (T := TX10) (N := 7) hx hb hts iv_k_X10_projected_X10 hown hK hP 0 rfl rfl 0 (by decide) (hts (.fieldLink RX10 12 "AnswerFold" "program" "LAnswerFold$Program;") (by decide +kernel)) (fun _ h9 => h9) rfl dX10_projected_5 ?_
    refine lv_iload_n hx hb dX10_projected_8 rfl (lv_at hl 1 rfl) ?_
    obtain ⟨t_9, ht_9⟩ : ∃ t, t = m_k_X6_hasPredicate pn a1 := ⟨_, rfl⟩
    rw [lE_eq ht_9] at hT
    refine wq_iW (wc := (wW_k_X6_hasPredicate ty X pn rn tn en)) (va_runV (As := [.int a1]) (rest := []) ⟨hx, hb, hml, hown, hts⟩ (k_X6_hasPredicate l D ty td mi H.size X pn rn tn en a1 t_9 ht_9) (cwV 1 hts gv_k_X10_projected_1 rfl rfl rfl (by decide +kernel) ⟨(Nat.le_of_ble_eq_true rfl), (Nat.le_of_ble_eq_true rfl)⟩) (wm_V (wm_preS hP hD hK hE hS hA [false, true] rfl) (va_recv (q0 := 1) (ci := 8) hK hP rfl rfl)) rfl rfl hl.1 rfl (lv_room (Nat.le_of_ble_eq_true rfl)) dX10_projected_9 ⟨(Nat.le_of_ble_eq_true rfl), (Nat.le_of_ble_eq_true rfl)⟩) hS hA hP hD [false, true] rfl (fun _ _ h => by rcases h with ⟨-, -, rfl⟩; rfl) (fun r u H locs hw hP hD hS => ?_)
    obtain ⟨hr0, c_6, rfl⟩ := hw
    subst r
    have hP : va_P D vwCl (wW_k_X10_projected ty X pn rn tn en an ch cg fb mh ml ih lb ic obi nn kp se) H := hP
    have hD : va_D A (wW_k_X10_projected ty X pn rn tn en an ch cg fb mh ml ih lb ic obi nn kp se) := hD
    refine W.widen (k := 1) (n := 6) (Nat.le_of_ble_eq_true rfl) (Nat.le_of_ble_eq_true rfl) ?_
    refine lv_if_ne (tgt := 26) hx hb dX10_projected_12 (by decide) (fun c_7 => ?_) (fun c_7 => ?_)
    · rw [if_neg c_7] at hT
      refine lv_aload_n hx hb dX10_projected_26 rfl (lv_at hl 0 rfl) ?_
      refine va_get (D := D) (ci := 12) (v := .ref (X 45)) (C := RX10) (T := TX10) (N := 7) hx hb hts iv_k_X10_projected_X10 hown hK hP 0 rfl rfl 6 (by decide) (hts (.fieldLink RX10 56 "AnswerFold" "answers" "LAnswerFold$Answers;") (by decide +kernel)) (fun _ h9 => h9) rfl dX10_projected_27 ?_
      refine lv_aload_n hx hb dX10_projected_30 rfl (lv_at hl 0 rfl) ?_
      refine va_get (D := D) (ci := 12) (v := .ref (X 20)) (C := RX10) (T := TX10) (N := 7) hx hb hts iv_k_X10_projected_X10 hown hK hP 0 rfl rfl 2 (by decide) (hts (.fieldLink RX10 30 "AnswerFold" "solver" "LAnswerFold$Solver;") (by decide +kernel)) (fun _ h9 => h9) rfl dX10_projected_31 ?_
      refine lv_iload_n hx hb dX10_projected_34 rfl (lv_at hl 1 rfl) ?_
      obtain ⟨t_35, ht_35⟩ : ∃ t, t = m_k_X9_openBitsOf obi a1 := ⟨_, rfl⟩
      rw [lE_eq ht_35] at hT
      refine wq_iW (wc := (wW_k_X9_openBitsOf ty X an ch cg fb mh ml ih lb ic obi)) (va_runV (As := [.int a1]) (rest := [.ref (X 45)]) ⟨hx, hb, hml, hown, hts⟩ (k_X9_openBitsOf l D ty td mi H.size X an ch cg fb mh ml ih lb ic obi a1 t_35 ht_35) (cwV 1 hts gv_k_X10_projected_2 rfl rfl rfl (by decide +kernel) ⟨(Nat.le_of_ble_eq_true rfl), (Nat.le_of_ble_eq_true rfl)⟩) (wm_V (wm_preS hP hD hK hE hS hA [false, false, true, true] rfl) (va_recv (q0 := 2) (ci := 11) hK hP rfl rfl)) rfl rfl hl.1 rfl (lv_room (Nat.le_of_ble_eq_true rfl)) dX10_projected_35 ⟨(Nat.le_of_ble_eq_true rfl), (Nat.le_of_ble_eq_true rfl)⟩) hS hA hP hD [false, false, true, true] rfl (fun _ _ h => by rcases h with ⟨-, rfl⟩; rfl) (fun r u H locs hw hP hD hS => ?_)
      obtain ⟨hr0, rfl⟩ := hw
      subst r
      have hP : va_P D vwCl (wW_k_X10_projected ty X pn rn tn en an ch cg fb mh ml ih lb ic obi nn kp se) H := hP
      have hD : va_D A (wW_k_X10_projected ty X pn rn tn en an ch cg fb mh ml ih lb ic obi nn kp se) := hD
      refine W.widen (k := 1) (n := 6) (Nat.le_of_ble_eq_true rfl) (Nat.le_of_ble_eq_true rfl) ?_
      obtain ⟨t_38, ht_38⟩ : ∃ t, t = m_k_X0_countDifferent nn se t_35 := ⟨_, rfl⟩
      rw [lE_eq ht_38] at hT
      refine wq_iW (wc := (wW_k_X0_countDifferent ty (X 45) (X 46) (X 47) nn kp se)) (va_runV (As := [.int t_35]) (rest := []) ⟨hx, hb, hml, hown, hts⟩ (k_X0_countDifferent l D ty td mi H.size (X 45) (X 46) (X 47) nn kp se t_35 t_38 ht_38) (cwV 1 hts gv_k_X10_projected_3 rfl rfl rfl (by decide +kernel) ⟨(Nat.le_of_ble_eq_true rfl), (Nat.le_of_ble_eq_true rfl)⟩) (wm_V (wm_preS hP hD hK hE hS hA [false, false, false, false, true, true] rfl) (va_recv (q0 := 4) (ci := 2) hK hP rfl rfl)) rfl rfl hl.1 rfl (lv_room (Nat.le_of_ble_eq_true rfl)) dX10_projected_38 ⟨(Nat.le_of_ble_eq_true rfl), (Nat.le_of_ble_eq_true rfl)⟩) hS hA hP hD [false, false, false, false, true, true] rfl (fun _ _ h => by rcases h with ⟨-, rfl⟩; rfl) (fun r u H locs hw hP hD hS => ?_)
      obtain ⟨hr0, rfl⟩ := hw
      subst r
      have hP : va_P D vwCl (wW_k_X10_projected ty X pn rn tn en an ch cg fb mh ml ih lb ic obi nn kp se) H := hP
      have hD : va_D A (wW_k_X10_projected ty X pn rn tn en an ch cg fb mh ml ih lb ic obi nn kp se) := hD
      refine W.widen (k := 1) (n := 6) (Nat.le_of_ble_eq_true rfl) (Nat.le_of_ble_eq_true rfl) ?_
      refine W.widen (k := 2) (n := 12) (Nat.le_of_ble_eq_true rfl) (Nat.le_of_ble_eq_true rfl) ?_
      exact END t_38 hT _ _ hP hD hS _ _ dX10_projected_41
    · rw [if_pos c_7] at hT
      obtain ⟨sa, hsa⟩ := hE.st 318 "no such predicate" (by decide +kernel)
      exact vx_throwSW (own := RX10) (cls := "java/lang/IndexOutOfBoundsException") (text := "no such predicate") (names := ["java/lang/RuntimeException", "java/lang/Exception"]) (ik := 134) (is := 318) (ic := 138) (sa := sa) (A := A) hx hb hl9 hown (by decide +kernel) (by decide +kernel) (hts (.classLink RX10 134 "java/lang/IndexOutOfBoundsException") (by decide +kernel)) (hts (.initialized "java/lang/IndexOutOfBoundsException") (by decide +kernel)) hsa (wq_hat hE hts ix_k_X10_projected_138 (by decide +kernel) (by decide +kernel)) (by decide +kernel) hE.zu hE.zs hS (hl.1.trans hml.symm) dX10_projected_15 dX10_projected_18 dX10_projected_19 dX10_projected_22 dX10_projected_25 (fun x hx => (hEx x hx).elim) (Nat.le_of_ble_eq_true rfl) (Nat.le_of_ble_eq_true rfl) (Nat.le_of_ble_eq_true rfl) (Nat.le_of_ble_eq_true rfl) hlocks (fun t ha hz hk => wq_thrW (W := (wW_k_X10_projected ty X pn rn tn en an ch cg fb mh ml ih lb ic obi nn kp se)) hS hP hD (by exact (Or.inl ⟨(by rw [hT]), (by first | rw [hT] | rfl)⟩)) hz hk) hS.2.2 (Nat.le_of_ble_eq_true rfl) (Nat.le_of_ble_eq_true rfl)
theorem dX10_holds_0 : decode cX10_holds 0 = .ok (.aload_n 0, 1) := by decide +kernel
theorem dX10_holds_1 : decode cX10_holds 1 = .ok (.invokevirtual 312, 3) := by decide +kernel
theorem dX10_holds_4 : decode cX10_holds 4 = .ok (.aload_n 0, 1) := by decide +kernel
theorem dX10_holds_5 : decode cX10_holds 5 = .ok (.aload_n 0, 1) := by decide +kernel
theorem dX10_holds_6 : decode cX10_holds 6 = .ok (.iload_n 1, 1) := by decide +kernel
theorem dX10_holds_7 : decode cX10_holds 7 = .ok (.iload_n 2, 1) := by decide +kernel
theorem dX10_holds_8 : decode cX10_holds 8 = .ok (.iload_n 3, 1) := by decide +kernel
theorem dX10_holds_9 : decode cX10_holds 9 = .ok (.invokevirtual 206, 3) := by decide +kernel
theorem dX10_holds_12 : decode cX10_holds 12 = .ok (.invokevirtual 326, 3) := by decide +kernel
theorem dX10_holds_15 : decode cX10_holds 15 = .ok (.istore 4, 2) := by decide +kernel
theorem dX10_holds_17 : decode cX10_holds 17 = .ok (.iload 4, 2) := by decide +kernel
theorem dX10_holds_19 : decode cX10_holds 19 = .ok (.aload_n 0, 1) := by decide +kernel
theorem dX10_holds_20 : decode cX10_holds 20 = .ok (.getfield 56, 3) := by decide +kernel
theorem dX10_holds_23 : decode cX10_holds 23 = .ok (.getfield 280, 3) := by decide +kernel
theorem dX10_holds_26 : decode cX10_holds 26 = .ok (.if_icmp .ne 6, 3) := by decide +kernel
theorem dX10_holds_29 : decode cX10_holds 29 = .ok (.bipush 97, 2) := by decide +kernel
theorem dX10_holds_31 : decode cX10_holds 31 = .ok (.ireturn, 1) := by decide +kernel
theorem dX10_holds_32 : decode cX10_holds 32 = .ok (.iload 4, 2) := by decide +kernel
theorem dX10_holds_34 : decode cX10_holds 34 = .ok (.ifCond .ne 8, 3) := by decide +kernel
theorem dX10_holds_37 : decode cX10_holds 37 = .ok (.bipush 110, 2) := by decide +kernel
theorem dX10_holds_39 : decode cX10_holds 39 = .ok (.goto 5, 3) := by decide +kernel
theorem dX10_holds_42 : decode cX10_holds 42 = .ok (.bipush 115, 2) := by decide +kernel
theorem dX10_holds_44 : decode cX10_holds 44 = .ok (.ireturn, 1) := by decide +kernel
def wW_k_X10_holds (ty : Nat → ClassId) (X : Nat → Nat) (z9_0 : Int32) (z9_1 : Int32) (z9_2 : Int32) (z9_3 : Int32) (z9_4 : Nat → Int32) (z9_5 : Int32) (z9_6 : Int32) (z9_7 : Int32) (z9_8 : Int32) (z9_9 : Int32) (z9_10 : Int32) (z9_11 : Nat → Int64) (z9_12 : Nat → Int32) (z9_13 : Int32) (z9_14 : Int32) (z9_15 : Int32) (z9_16 : Int32) (z9_17 : Int32) (z9_18 : Int32) (z9_19 : Int32) (z9_20 : Int32) (z9_21 : Int32) (z9_22 : Int32) (z9_23 : Int32) (z9_24 : Nat → Int32) : va_W := [((X 0), .inr (12, [.ref (X 1), .ref (X 8), .ref (X 20), .ref (X 39), .ref (X 41), .ref (X 43), .ref (X 45)])), ((X 1), .inr (8, [.ref (X 2), .int z9_0, .ref (X 3), .int z9_1, .ref (X 4), .ref (X 5), .int z9_2, .ref (X 6), .ref (X 7), .int z9_3])), ((X 2), .inl (ty 0, 6, .inl z9_4)), ((X 8), .inr (5, [.ref (X 1), .ref (X 9), .ref (X 10), .ref (X 12), .ref (X 14), .int z9_5, .ref (X 15), .ref (X 16), .ref (X 17), .int z9_6, .ref (X 18), .ref (X 19), .int z9_7, .int z9_8, .int z9_9, .int z9_10])), ((X 10), .inr (3, [.ref (X 11)])), ((X 11), .inl (ty 1, 6, .inr (.inl z9_11))), ((X 19), .inl (ty 0, 384, .inl z9_12)), ((X 20), .inr (11, [.ref (X 1), .ref (X 8), .ref (X 21), .ref (X 28), .ref (X 35), .int z9_13, .ref (X 36), .ref (X 37), .ref (X 38), .int z9_14, .int z9_15, .int z9_16, .int z9_17, .int z9_18, .int z9_19, .int z9_20, .int z9_21])), ((X 45), .inr (2, [.ref (X 46), .ref (X 47), .int z9_22, .int z9_23])), ((X 46), .inl (ty 0, 64, .inl z9_24))]
abbrev r_k_X10_holds : Type := Int32 × Int32
def m_k_X10_holds (pn : Int32) (pl : Nat → Int32) (on : Int32) (su : Nat → Int64) (ob : Nat → Int32) (nn : Int32) (kp : Int32) (se : Nat → Int32) (a1 : Int32) (a2 : Int32) (a3 : Int32) : r_k_X10_holds :=
  lE (m_k_X10_checkWalk kp) (fun t_1 =>
    if t_1 = 0 then
      lE (m_k_X10_checkedAtom pn pl a1 a2 a3) (fun t_9 =>
        if t_9.1 = 0 then
          lE (m_k_X10_answersWith on su ob nn se t_9.2) (fun t_12 =>
            if t_12 = nn then
              (0, 97)
            else
              if t_12 = 0 then
                (0, 110)
              else
                (0, 115))
        else
          if t_9.1 = 1 then
            (1, 0)
          else
            (2, 0))
    else
      (3, 0))
def vs_k_X10_holds : List Cond := .code yX10_holds cX10_holds 5 (some .char) :: ([.methodLink RX10 312 yX10_checkWalk, .instanceMethod yX10_checkWalk, .selects RX10 yX10_checkWalk yX10_checkWalk, .initialized RX10, .methodLink RX10 206 yX10_checkedAtom, .instanceMethod yX10_checkedAtom, .selects RX10 yX10_checkedAtom yX10_checkedAtom, .methodLink RX10 326 yX10_answersWith, .instanceMethod yX10_answersWith, .selects RX10 yX10_answersWith yX10_answersWith, .fieldLink RX10 56 "AnswerFold" "answers" "LAnswerFold$Answers;"] ++ (vs_k_X10_checkWalk ++ (vs_k_X10_checkedAtom ++ (vs_k_X10_answersWith ++ (u_ws RX10 TX10 7 ++ (u_ws RX0 TX0 4))))))
theorem iv_k_X10_holds_X0 : ∀ w ∈ u_ws RX0 TX0 4, w ∈ vs_k_X10_holds := (fun _ h => List.mem_cons_of_mem _ (List.mem_append_right _ (List.mem_append_right _ (List.mem_append_right _ (List.mem_append_right _ (List.mem_append_right _ (h)))))))
theorem iv_k_X10_holds_X10 : ∀ w ∈ u_ws RX10 TX10 7, w ∈ vs_k_X10_holds := (fun _ h => List.mem_cons_of_mem _ (List.mem_append_right _ (List.mem_append_right _ (List.mem_append_right _ (List.mem_append_right _ (List.mem_append_left _ h))))))
set_option maxRecDepth 20000 in
theorem gv_k_X10_holds_0 : GoodIn vs_k_X10_holds (wsV RX10 312 RX10 yX10_checkWalk vs_k_X10_checkWalk) := goodIn_app (goodIn_sub (by decide +kernel) (by decide +kernel)) (goodIn_sub (fun _ h => List.mem_cons_of_mem _ (List.mem_append_right _ (List.mem_append_left _ h))) (by decide +kernel))
set_option maxRecDepth 20000 in
theorem gv_k_X10_holds_1 : GoodIn vs_k_X10_holds (wsV RX10 206 RX10 yX10_checkedAtom vs_k_X10_checkedAtom) := goodIn_app (goodIn_sub (by decide +kernel) (by decide +kernel)) (goodIn_sub (fun _ h => List.mem_cons_of_mem _ (List.mem_append_right _ (List.mem_append_right _ (List.mem_append_left _ h)))) (by decide +kernel))
set_option maxRecDepth 20000 in
theorem gv_k_X10_holds_2 : GoodIn vs_k_X10_holds (wsV RX10 326 RX10 yX10_answersWith vs_k_X10_answersWith) := goodIn_app (goodIn_sub (by decide +kernel) (by decide +kernel)) (goodIn_sub (fun _ h => List.mem_cons_of_mem _ (List.mem_append_right _ (List.mem_append_right _ (List.mem_append_right _ (List.mem_append_left _ h))))) (by decide +kernel))
set_option maxHeartbeats 4000000 in
set_option maxRecDepth 100000 in
theorem k_X10_holds (l : Launch) (hl9 : l.stackTraces = false) (D : va_G) (ty : Nat → ClassId) (td mi sz : Nat) (X : Nat → Nat) (pn : Int32) (rn : Int32) (tn : Int32) (en : Int32) (pl : Nat → Int32) (hn : Int32) (kn : Int32) (on : Int32) (cu : Int32) (pu : Int32) (gw : Int32) (su : Nat → Int64) (ob : Nat → Int32) (an : Int32) (ch : Int32) (cg : Int32) (fb : Int32) (mh : Int32) (ml : Int32) (ih : Int32) (lb : Int32) (ic : Int32) (nn : Int32) (kp : Int32) (se : Nat → Int32) (a1 : Int32) (a2 : Int32) (a3 : Int32) (TT : r_k_X10_holds) (hTT : TT = m_k_X10_holds pn pl on su ob nn kp se a1 a2 a3) : vx_Met l yX10_holds vs_k_X10_holds { frames := 7, cells := 2, slots := 12, locals := 106 } (va_Pc [.ref (X 0), .int a1, .int a2, .int a3] (wq_P D ty td mi (wW_k_X10_holds ty X pn rn tn en pl hn kn on cu pu gw su ob an ch cg fb mh ml ih lb ic nn kp se) sz)) (va_Qi (fun (r : Int32) (u : va_W) => (TT.1 = 0 ∧ r = TT.2 ∧ (u = (wW_k_X10_holds ty X pn rn tn en pl hn kn on cu pu gw su ob an ch cg fb mh ml ih lb ic nn kp se)))) (wq_B D (va_A (wW_k_X10_holds ty X pn rn tn en pl hn kn on cu pu gw su ob an ch cg fb mh ml ih lb ic nn kp se) sz)) (va_A (wW_k_X10_holds ty X pn rn tn en pl hn kn on cu pu gw su ob an ch cg fb mh ml ih lb ic nn kp se) sz)) (vx_X (fun u : String × va_W => (TT.1 = 1 ∧ u = ("java/lang/IndexOutOfBoundsException", (wW_k_X10_holds ty X pn rn tn en pl hn kn on cu pu gw su ob an ch cg fb mh ml ih lb ic nn kp se))) ∨ (TT.1 = 2 ∧ u = ("java/lang/IllegalArgumentException", (wW_k_X10_holds ty X pn rn tn en pl hn kn on cu pu gw su ob an ch cg fb mh ml ih lb ic nn kp se))) ∨ (TT.1 = 3 ∧ u = ("java/lang/IllegalStateException", (wW_k_X10_holds ty X pn rn tn en pl hn kn on cu pu gw su ob an ch cg fb mh ml ih lb ic nn kp se)))) (wq_BX D (va_A (wW_k_X10_holds ty X pn rn tn en pl hn kn on cu pu gw su ob an ch cg fb mh ml ih lb ic nn kp se) sz)) (va_A (wW_k_X10_holds ty X pn rn tn en pl hn kn on cu pu gw su ob an ch cg fb mh ml ih lb ic nn kp se) sz)) 2 12 (va_A (wW_k_X10_holds ty X pn rn tn en pl hn kn on cu pu gw su ob an ch cg fb mh ml ih lb ic nn kp se) sz) := by
  refine vx_ofW (cc := cX10_holds) (maxL := 5) (ret := (some .char)) (by decide) rfl ?_
  intro p e s m args below meth c s₁ B hml hEx hv
  obtain ⟨rfl, hsz, hP, hK, hD0, hE⟩ := hv
  have hx := B.exec
  have hb := B.bytes
  have hr := B.returns
  have hts := atoms_spec (ws := vs_k_X10_holds) B.pre
  have hown : s.vm.findClass RX10 = some m.cls := findClass_of_methodNamed B.named
  have hlocks := B.notSynchronized
  subst hsz
  have hD := hD0.self (sz := s.heap.size)
  generalize hAe : va_A (wW_k_X10_holds ty X pn rn tn en pl hn kn on cu pu gw su ob an ch cg fb mh ml ih lb ic nn kp se) s.heap.size = A at hD hE ⊢
  have hA : ∀ q : Nat, s.heap.size ≤ q → A q := fun q h => by rw [← hAe]; exact Or.inr h
  have hS : va_S A s.heap s.heap [] := va_S.rf
  have hP : va_P D vwCl (wW_k_X10_holds ty X pn rn tn en pl hn kn on cu pu gw su ob an ch cg fb mh ml ih lb ic nn kp se) s.heap := hP
  have hl := lv_entry ([.ref (X 0), .int a1, .int a2, .int a3]) (n := 5) (Nat.le_of_ble_eq_true rfl)
  rw [lg_entry_eq]
  generalize (lg_sl ([.ref (X 0), .int a1, .int a2, .int a3]) ++ List.replicate (5 - (lg_sl ([.ref (X 0), .int a1, .int a2, .int a3])).length) Slot.unset).toArray = ls at hl ⊢
  have hl : lv_has ls 5 [(0, .ref (X 0)), (1, .int a1), (2, .int a2), (3, .int a3)] := hl
  have END : ∀ (r : Int32), TT = (0, r) → narrow .char (.int r) = .int r → ∀ (H : Heap) (locs : List Loc), va_P D vwCl (wW_k_X10_holds ty X pn rn tn en pl hn kn on cu pu gw su ob an ch cg fb mh ml ih lb ic nn kp se) H → va_D A (wW_k_X10_holds ty X pn rn tn en pl hn kn on cu pu gw su ob an ch cg fb mh ml ih lb ic nn kp se) → va_S A s.heap H locs → ∀ (ls : Array Slot) (pc : Nat), decode cX10_holds pc = .ok (.ireturn, 1) → W p l e (headSpec vs_k_X10_holds { frames := 7, cells := 2, slots := 12, locals := 106 }).room s m ([.ref (X 0), .int a1, .int a2, .int a3] : List Value).toArray below meth c H locs 2 12 (vx_MQ below (va_Qi (fun (r : Int32) (u : va_W) => (TT.1 = 0 ∧ r = TT.2 ∧ (u = (wW_k_X10_holds ty X pn rn tn en pl hn kn on cu pu gw su ob an ch cg fb mh ml ih lb ic nn kp se)))) (wq_B D A) A) (vx_X (fun u : String × va_W => (TT.1 = 1 ∧ u = ("java/lang/IndexOutOfBoundsException", (wW_k_X10_holds ty X pn rn tn en pl hn kn on cu pu gw su ob an ch cg fb mh ml ih lb ic nn kp se))) ∨ (TT.1 = 2 ∧ u = ("java/lang/IllegalArgumentException", (wW_k_X10_holds ty X pn rn tn en pl hn kn on cu pu gw su ob an ch cg fb mh ml ih lb ic nn kp se))) ∨ (TT.1 = 3 ∧ u = ("java/lang/IllegalStateException", (wW_k_X10_holds ty X pn rn tn en pl hn kn on cu pu gw su ob an ch cg fb mh ml ih lb ic nn kp se)))) (wq_BX D A) A) ([.ref (X 0), .int a1, .int a2, .int a3] : List Value).toArray s 2 12 A) (F0 m pc ls [.int r]) := by
    intro r hT hb01 H locs hP hD hS ls pc hd
    have hM : TT = (0, r) := hT
    refine vx_ret ?_
    exact W.zret (v := r) hx hb hr hb01 (fun t ht hW => ⟨⟨r, (wW_k_X10_holds ty X pn rn tn en pl hn kn on cu pu gw su ob an ch cg fb mh ml ih lb ic nn kp se), rfl, ⟨(by rw [hM]), (by rw [hM]), rfl⟩, wq_B.of ht hP hD⟩, hS.F ht⟩) hS.2.2 hd
  have hT := hTT
  rw [m_k_X10_holds] at hT
  refine lv_aload_n hx hb dX10_holds_0 rfl (lv_at hl 0 rfl) ?_
  obtain ⟨t_1, ht_1⟩ : ∃ t, t = m_k_X10_checkWalk kp := ⟨_, rfl⟩
  rw [lE_eq ht_1] at hT
  refine wq_xvW (wc := (wW_k_X10_checkWalk ty X nn kp)) (vx_runV (As := []) (rest := []) ⟨hx, hb, hml, hown, hts⟩ (k_X10_checkWalk l hl9 D ty td mi s.heap.size X nn kp t_1 ht_1) (cwV 0 hts gv_k_X10_holds_0 rfl rfl rfl (by decide +kernel) ⟨(Nat.le_of_ble_eq_true rfl), (Nat.le_of_ble_eq_true rfl)⟩) (wm_V (wm_preS hP hD hK hE hS hA [true, false, false, false, false, false, false, false, true] rfl) (va_recv (q0 := 0) (ci := 12) hK hP rfl rfl)) rfl rfl hl.1 rfl (lv_room (Nat.le_of_ble_eq_true rfl)) dX10_holds_1 ⟨(Nat.le_of_ble_eq_true rfl), (Nat.le_of_ble_eq_true rfl)⟩) hS hA hP hD [true, false, false, false, false, false, false, false, true] rfl (fun _ h => by rcases h with ⟨-, rfl⟩; rfl) (fun _ _ h => by rcases h with ⟨-, h⟩ <;> (cases h; rfl)) (fun E9 u H locs q9 ce hw hP hD hS hce hcv hcl => ?_) (fun u H locs hw hP hD hS => ?_)
  · obtain ⟨c_1, hEq⟩ := hw
    cases hEq
    rw [if_neg (show ¬ t_1 = 0 by rw [c_1]; decide)] at hT
    have hP : va_P D vwCl (wW_k_X10_holds ty X pn rn tn en pl hn kn on cu pu gw su ob an ch cg fb mh ml ih lb ic nn kp se) H := hP
    have hD : va_D A (wW_k_X10_holds ty X pn rn tn en pl hn kn on cu pu gw su ob an ch cg fb mh ml ih lb ic nn kp se) := hD
    refine vx_widen (k := 2) (n := 12) (Nat.le_of_ble_eq_true rfl) (Nat.le_of_ble_eq_true rfl) ?_
    exact vx_out (E := "java/lang/IllegalStateException") (fun x hx => (hEx x hx).elim) hlocks hce hcv hcl (fun t ht ha => wq_thrW0 (W := (wW_k_X10_holds ty X pn rn tn en pl hn kn on cu pu gw su ob an ch cg fb mh ml ih lb ic nn kp se)) hS hP hD (by exact (Or.inr (Or.inr ⟨(by rw [hT]), (by first | rw [hT] | rfl)⟩))) ht) hS.2.2 (Nat.le_refl _) (Nat.le_refl _)
  · obtain ⟨c_2, rfl⟩ := hw
    rw [if_pos c_2] at hT
    have hP : va_P D vwCl (wW_k_X10_holds ty X pn rn tn en pl hn kn on cu pu gw su ob an ch cg fb mh ml ih lb ic nn kp se) H := hP
    have hD : va_D A (wW_k_X10_holds ty X pn rn tn en pl hn kn on cu pu gw su ob an ch cg fb mh ml ih lb ic nn kp se) := hD
    refine W.widen (k := 1) (n := 6) (Nat.le_of_ble_eq_true rfl) (Nat.le_of_ble_eq_true rfl) ?_
    refine lv_aload_n hx hb dX10_holds_4 rfl (lv_at hl 0 rfl) ?_
    refine lv_aload_n hx hb dX10_holds_5 rfl (lv_at hl 0 rfl) ?_
    refine lv_iload_n hx hb dX10_holds_6 rfl (lv_at hl 1 rfl) ?_
    refine lv_iload_n hx hb dX10_holds_7 rfl (lv_at hl 2 rfl) ?_
    refine lv_iload_n hx hb dX10_holds_8 rfl (lv_at hl 3 rfl) ?_
    obtain ⟨t_9, ht_9⟩ : ∃ t, t = m_k_X10_checkedAtom pn pl a1 a2 a3 := ⟨_, rfl⟩
    rw [lE_eq ht_9] at hT
    refine wq_xiW (wc := (wW_k_X10_checkedAtom ty X pn rn tn en pl)) (vx_runV (As := [.int a1, .int a2, .int a3]) (rest := [.ref (X 0)]) ⟨hx, hb, hml, hown, hts⟩ (k_X10_checkedAtom l hl9 D ty td mi H.size X pn rn tn en pl a1 a2 a3 t_9 ht_9) (cwV 3 hts gv_k_X10_holds_1 rfl rfl rfl (by decide +kernel) ⟨(Nat.le_of_ble_eq_true rfl), (Nat.le_of_ble_eq_true rfl)⟩) (wm_V (wm_preS hP hD hK hE hS hA [true, true, true] rfl) (va_recv (q0 := 0) (ci := 12) hK hP rfl rfl)) rfl rfl hl.1 rfl (lv_room (Nat.le_of_ble_eq_true rfl)) dX10_holds_9 ⟨(Nat.le_of_ble_eq_true rfl), (Nat.le_of_ble_eq_true rfl)⟩) hS hA hP hD [true, true, true] rfl (fun _ _ h => by rcases h with ⟨-, -, rfl⟩; rfl) (fun _ _ h => by rcases h with ⟨-, h⟩ | ⟨-, h⟩ <;> (cases h; rfl)) (fun E9 u H locs q9 ce hw hP hD hS hce hcv hcl => ?_) (fun r u H locs hw hP hD hS => ?_)
    · rcases hw with ⟨c_4, hEq⟩ | ⟨c_5, hEq⟩
      · cases hEq
        rw [if_neg (show ¬ t_9.1 = 0 by rw [c_4]; decide)] at hT
        rw [if_pos c_4] at hT
        have hP : va_P D vwCl (wW_k_X10_holds ty X pn rn tn en pl hn kn on cu pu gw su ob an ch cg fb mh ml ih lb ic nn kp se) H := hP
        have hD : va_D A (wW_k_X10_holds ty X pn rn tn en pl hn kn on cu pu gw su ob an ch cg fb mh ml ih lb ic nn kp se) := hD
        refine vx_widen (k := 2) (n := 12) (Nat.le_of_ble_eq_true rfl) (Nat.le_of_ble_eq_true rfl) ?_
        exact vx_out (E := "java/lang/IndexOutOfBoundsException") (fun x hx => (hEx x hx).elim) hlocks hce hcv hcl (fun t ht ha => wq_thrW0 (W := (wW_k_X10_holds ty X pn rn tn en pl hn kn on cu pu gw su ob an ch cg fb mh ml ih lb ic nn kp se)) hS hP hD (by exact (Or.inl ⟨(by rw [hT]), (by first | rw [hT] | rfl)⟩)) ht) hS.2.2 (Nat.le_refl _) (Nat.le_refl _)
      · cases hEq
        rw [if_neg (show ¬ t_9.1 = 0 by rw [c_5]; decide)] at hT
        rw [if_neg (show ¬ t_9.1 = 1 by rw [c_5]; decide)] at hT
        have hP : va_P D vwCl (wW_k_X10_holds ty X pn rn tn en pl hn kn on cu pu gw su ob an ch cg fb mh ml ih lb ic nn kp se) H := hP
        have hD : va_D A (wW_k_X10_holds ty X pn rn tn en pl hn kn on cu pu gw su ob an ch cg fb mh ml ih lb ic nn kp se) := hD
        refine vx_widen (k := 2) (n := 12) (Nat.le_of_ble_eq_true rfl) (Nat.le_of_ble_eq_true rfl) ?_
        exact vx_out (E := "java/lang/IllegalArgumentException") (fun x hx => (hEx x hx).elim) hlocks hce hcv hcl (fun t ht ha => wq_thrW0 (W := (wW_k_X10_holds ty X pn rn tn en pl hn kn on cu pu gw su ob an ch cg fb mh ml ih lb ic nn kp se)) hS hP hD (by exact (Or.inr (Or.inl ⟨(by rw [hT]), (by first | rw [hT] | rfl)⟩))) ht) hS.2.2 (Nat.le_refl _) (Nat.le_refl _)
    · obtain ⟨c_6, rfl, rfl⟩ := hw
      rw [if_pos c_6] at hT
      have hP : va_P D vwCl (wW_k_X10_holds ty X pn rn tn en pl hn kn on cu pu gw su ob an ch cg fb mh ml ih lb ic nn kp se) H := hP
      have hD : va_D A (wW_k_X10_holds ty X pn rn tn en pl hn kn on cu pu gw su ob an ch cg fb mh ml ih lb ic nn kp se) := hD
      refine W.widen (k := 2) (n := 12) (Nat.le_of_ble_eq_true rfl) (Nat.le_of_ble_eq_true rfl) ?_
      obtain ⟨t_12, ht_12⟩ : ∃ t, t = m_k_X10_answersWith on su ob nn se t_9.2 := ⟨_, rfl⟩
      rw [lE_eq ht_12] at hT
      refine wq_iW (wc := (wW_k_X10_answersWith ty X hn kn on cu pu gw su ob an ch cg fb mh ml ih lb ic nn kp se)) (va_runV (As := [.int t_9.2]) (rest := []) ⟨hx, hb, hml, hown, hts⟩ (k_X10_answersWith l D ty td mi H.size X hn kn on cu pu gw su ob an ch cg fb mh ml ih lb ic nn kp se t_9.2 t_12 ht_12) (cwV 1 hts gv_k_X10_holds_2 rfl rfl rfl (by decide +kernel) ⟨(Nat.le_of_ble_eq_true rfl), (Nat.le_of_ble_eq_true rfl)⟩) (wm_V (wm_preS hP hD hK hE hS hA [true, false, false, true, true, true, true, true, true, true] rfl) (va_recv (q0 := 0) (ci := 12) hK hP rfl rfl)) rfl rfl hl.1 rfl (lv_room (Nat.le_of_ble_eq_true rfl)) dX10_holds_12 ⟨(Nat.le_of_ble_eq_true rfl), (Nat.le_of_ble_eq_true rfl)⟩) hS hA hP hD [true, false, false, true, true, true, true, true, true, true] rfl (fun _ _ h => by rcases h with ⟨-, rfl⟩; rfl) (fun r u H locs hw hP hD hS => ?_)
      obtain ⟨hr0, rfl⟩ := hw
      subst r
      have hP : va_P D vwCl (wW_k_X10_holds ty X pn rn tn en pl hn kn on cu pu gw su ob an ch cg fb mh ml ih lb ic nn kp se) H := hP
      have hD : va_D A (wW_k_X10_holds ty X pn rn tn en pl hn kn on cu pu gw su ob an ch cg fb mh ml ih lb ic nn kp se) := hD
      refine W.widen (k := 2) (n := 12) (Nat.le_of_ble_eq_true rfl) (Nat.le_of_ble_eq_true rfl) ?_
      refine lv_istore (lv' := [(4, .int t_12), (0, .ref (X 0)), (1, .int a1), (2, .int a2), (3, .int a3)]) hx hb dX10_holds_15 hl (by decide) rfl (fun ls hl => ?_)
      refine lv_iload hx hb dX10_holds_17 (lv_at hl 0 rfl) ?_
      refine lv_aload_n hx hb dX10_holds_19 rfl (lv_at hl 1 rfl) ?_
      refine va_get (D := D) (ci := 12) (v := .ref (X 45)) (C := RX10) (T := TX10) (N := 7) hx hb hts iv_k_X10_holds_X10 hown hK hP 0 rfl rfl 6 (by decide) (hts (.fieldLink RX10 56 "AnswerFold" "answers" "LAnswerFold$Answers;") (by decide +kernel)) (fun _ h9 => h9) rfl dX10_holds_20 ?_
      refine va_getN (D := D) (ci := 2) (v := .int nn) (C := RX0) (T := TX0) (N := 4) hx hb hts iv_k_X10_holds_X0 hown hK hP 8 rfl rfl 2 (by decide) (hE.at (.fieldLinkNest "AnswerFold" 280 "AnswerFold$Answers" "count" "I" "AnswerFold") (by decide +kernel)) (fun _ h9 => h9) rfl dX10_holds_23 ?_
      refine lv_icmp_ne (tgt := 32) hx hb dX10_holds_26 (by decide) (fun c_10 => ?_) (fun c_10 => ?_)
      · rw [if_neg c_10] at hT
        refine lv_iload hx hb dX10_holds_32 (lv_at hl 0 rfl) ?_
        refine lv_if_ne (tgt := 42) hx hb dX10_holds_34 (by decide) (fun c_11 => ?_) (fun c_11 => ?_)
        · rw [if_neg c_11] at hT
          refine lv_bipush (v := 115) hx hb dX10_holds_42 (by decide) ?_
          exact END 115 hT rfl _ _ hP hD hS _ _ dX10_holds_44
        · rw [if_pos c_11] at hT
          refine lv_bipush (v := 110) hx hb dX10_holds_37 (by decide) ?_
          refine lv_goto (tgt := 44) hx hb dX10_holds_39 (by decide) ?_
          exact END 110 hT rfl _ _ hP hD hS _ _ dX10_holds_44
      · rw [if_pos c_10] at hT
        refine lv_bipush (v := 97) hx hb dX10_holds_29 (by decide) ?_
        exact END 97 hT rfl _ _ hP hD hS _ _ dX10_holds_31
theorem dX10_reason_0 : decode cX10_reason 0 = .ok (.aload_n 0, 1) := by decide +kernel
theorem dX10_reason_1 : decode cX10_reason 1 = .ok (.iload_n 1, 1) := by decide +kernel
theorem dX10_reason_2 : decode cX10_reason 2 = .ok (.invokevirtual 299, 3) := by decide +kernel
theorem dX10_reason_5 : decode cX10_reason 5 = .ok (.istore 5, 2) := by decide +kernel
theorem dX10_reason_7 : decode cX10_reason 7 = .ok (.aload_n 0, 1) := by decide +kernel
theorem dX10_reason_8 : decode cX10_reason 8 = .ok (.iload_n 2, 1) := by decide +kernel
theorem dX10_reason_9 : decode cX10_reason 9 = .ok (.iload_n 3, 1) := by decide +kernel
theorem dX10_reason_10 : decode cX10_reason 10 = .ok (.iload 4, 2) := by decide +kernel
theorem dX10_reason_12 : decode cX10_reason 12 = .ok (.invokevirtual 206, 3) := by decide +kernel
theorem dX10_reason_15 : decode cX10_reason 15 = .ok (.istore 6, 2) := by decide +kernel
theorem dX10_reason_17 : decode cX10_reason 17 = .ok (.aload_n 0, 1) := by decide +kernel
theorem dX10_reason_18 : decode cX10_reason 18 = .ok (.getfield 30, 3) := by decide +kernel
theorem dX10_reason_21 : decode cX10_reason 21 = .ok (.iload 5, 2) := by decide +kernel
theorem dX10_reason_23 : decode cX10_reason 23 = .ok (.iload 6, 2) := by decide +kernel
theorem dX10_reason_25 : decode cX10_reason 25 = .ok (.invokevirtual 302, 3) := by decide +kernel
theorem dX10_reason_28 : decode cX10_reason 28 = .ok (.ifCond .eq 17, 3) := by decide +kernel
theorem dX10_reason_31 : decode cX10_reason 31 = .ok (.aload_n 0, 1) := by decide +kernel
theorem dX10_reason_32 : decode cX10_reason 32 = .ok (.getfield 30, 3) := by decide +kernel
theorem dX10_reason_35 : decode cX10_reason 35 = .ok (.iload 5, 2) := by decide +kernel
theorem dX10_reason_37 : decode cX10_reason 37 = .ok (.iload 6, 2) := by decide +kernel
theorem dX10_reason_39 : decode cX10_reason 39 = .ok (.invokevirtual 329, 3) := by decide +kernel
theorem dX10_reason_42 : decode cX10_reason 42 = .ok (.goto 4, 3) := by decide +kernel
theorem dX10_reason_45 : decode cX10_reason 45 = .ok (.iconst (-1), 1) := by decide +kernel
theorem dX10_reason_46 : decode cX10_reason 46 = .ok (.istore 7, 2) := by decide +kernel
theorem dX10_reason_48 : decode cX10_reason 48 = .ok (.iload 7, 2) := by decide +kernel
theorem dX10_reason_50 : decode cX10_reason 50 = .ok (.iconst (-1), 1) := by decide +kernel
theorem dX10_reason_51 : decode cX10_reason 51 = .ok (.if_icmp .ne 14, 3) := by decide +kernel
theorem dX10_reason_54 : decode cX10_reason 54 = .ok (.new 333, 3) := by decide +kernel
theorem dX10_reason_57 : decode cX10_reason 57 = .ok (.dup, 1) := by decide +kernel
theorem dX10_reason_58 : decode cX10_reason 58 = .ok (.ldc_w 335, 3) := by decide +kernel
theorem dX10_reason_61 : decode cX10_reason 61 = .ok (.invokespecial 337, 3) := by decide +kernel
theorem dX10_reason_64 : decode cX10_reason 64 = .ok (.athrow, 1) := by decide +kernel
theorem dX10_reason_65 : decode cX10_reason 65 = .ok (.iload 7, 2) := by decide +kernel
theorem dX10_reason_67 : decode cX10_reason 67 = .ok (.ireturn, 1) := by decide +kernel
def wW_k_X10_reason (ty : Nat → ClassId) (X : Nat → Nat) (z9_0 : Int32) (z9_1 : Int32) (z9_2 : Int32) (z9_3 : Int32) (z9_4 : Nat → Int32) (z9_5 : Nat → Option Nat) (z9_6 : Nat → Int32) (z9_7 : Nat → Int32) (z9_8 : Int32) (z9_9 : Int32) (z9_10 : Int32) (z9_11 : Int32) (z9_12 : Int32) (z9_13 : Int32) (z9_14 : Int32) (z9_15 : Int32) (z9_16 : Int32) (z9_17 : Int32) (z9_18 : Nat → Int64) (z9_19 : Nat → Int32) (z9_20 : Nat → Int32) (z9_21 : Nat → Int32) (z9_22 : Nat → Int32) (z9_23 : Int32) (z9_24 : Int32) (z9_25 : Int32) (z9_26 : Int32) (z9_27 : Int32) (z9_28 : Int32) (z9_29 : Int32) (z9_30 : Int32) (z9_31 : Int32) (z9_32 : Nat → Int32) (z9_33 : Nat → Int32) (z9_34 : Int32) (z9_35 : Int32) (z9_36 : Nat → Int32) : va_W := [((X 0), .inr (12, [.ref (X 1), .ref (X 8), .ref (X 20), .ref (X 39), .ref (X 41), .ref (X 43), .ref (X 45)])), ((X 1), .inr (8, [.ref (X 2), .int z9_0, .ref (X 3), .int z9_1, .ref (X 4), .ref (X 5), .int z9_2, .ref (X 6), .ref (X 7), .int z9_3])), ((X 2), .inl (ty 0, 6, .inl z9_4)), ((X 3), .inl (ty 4, 20, .inr (.inr (.inr (.inr z9_5))))), ((X 6), .inl (ty 0, 6, .inl z9_6)), ((X 7), .inl (ty 2, 6, .inl z9_7)), ((X 8), .inr (5, [.ref (X 1), .ref (X 9), .ref (X 10), .ref (X 12), .ref (X 14), .int z9_8, .ref (X 15), .ref (X 16), .ref (X 17), .int z9_9, .ref (X 18), .ref (X 19), .int z9_10, .int z9_11, .int z9_12, .int z9_13])), ((X 9), .inr (4, [.int z9_14, .int z9_15, .int z9_16, .int z9_17])), ((X 10), .inr (3, [.ref (X 11)])), ((X 11), .inl (ty 1, 6, .inr (.inl z9_18))), ((X 14), .inl (ty 0, 16, .inl z9_19)), ((X 15), .inl (ty 0, 300, .inl z9_20)), ((X 16), .inl (ty 0, 300, .inl z9_21)), ((X 19), .inl (ty 0, 384, .inl z9_22)), ((X 20), .inr (11, [.ref (X 1), .ref (X 8), .ref (X 21), .ref (X 28), .ref (X 35), .int z9_23, .ref (X 36), .ref (X 37), .ref (X 38), .int z9_24, .int z9_25, .int z9_26, .int z9_27, .int z9_28, .int z9_29, .int z9_30, .int z9_31])), ((X 36), .inl (ty 0, 6, .inl z9_32)), ((X 37), .inl (ty 0, 6, .inl z9_33)), ((X 45), .inr (2, [.ref (X 46), .ref (X 47), .int z9_34, .int z9_35])), ((X 46), .inl (ty 0, 64, .inl z9_36))]
abbrev r_k_X10_reason : Type := Int32 × Int32 × (Nat → Int32) × Int32 × Int32 × Int32 × Int32 × Int32
def m_k_X10_reason_46 (s0_46 : Int32) (x14_f_46 : Nat → Int32) (x8_5_46 : Int32) (x9_0_46 : Int32) (x9_1_46 : Int32) (x9_2_46 : Int32) (x9_3_46 : Int32) : r_k_X10_reason :=
  if s0_46 = (-1) then
    (5, 0, x14_f_46, x8_5_46, x9_0_46, x9_1_46, x9_2_46, x9_3_46)
  else
    (0, s0_46, x14_f_46, x8_5_46, x9_0_46, x9_1_46, x9_2_46, x9_3_46)
def m_k_X10_reason (pp : pT) (pn : Int32) (rn : Int32) (en : Int32) (pl : Nat → Int32) (rf : Nat → Option Nat) (ea : Nat → Int32) (es : Nat → Int32) (hn : Int32) (kn : Int32) (on : Int32) (b_1 : Int32) (b_2 : Int32) (b_3 : Int32) (b_p : Int32) (su : Nat → Int64) (hds : Nat → Int32) (kr : Nat → Int32) (kv : Nat → Int32) (ob : Nat → Int32) (obi : Nat → Int32) (sc : Nat → Int32) (nn : Int32) (kp : Int32) (se : Nat → Int32) (a1 : Int32) (a2 : Int32) (a3 : Int32) (a4 : Int32) : r_k_X10_reason :=
  lE (m_k_X10_checkedAnswer nn kp se a1) (fun t_2 =>
    if t_2.1 = 0 then
      lE (m_k_X10_checkedAtom pn pl a2 a3 a4) (fun t_12 =>
        if t_12.1 = 0 then
          lE (m_k_X9_isIn on su ob t_2.2 t_12.2) (fun t_25 =>
            if t_25 = 0 then
              m_k_X10_reason_46 (-1) hds hn b_1 b_2 b_3 b_p
            else
              lE (m_k_X9_reasonFor pp rn en rf ea es hn kn on b_1 b_2 b_3 b_p su hds kr kv ob obi sc t_2.2 t_12.2) (fun t_39 =>
                m_k_X10_reason_46 t_39.1 t_39.2.1 t_39.2.2.1 t_39.2.2.2.1 t_39.2.2.2.2.1 t_39.2.2.2.2.2.1 t_39.2.2.2.2.2.2))
        else
          if t_12.1 = 1 then
            (1, 0, hds, hn, b_1, b_2, b_3, b_p)
          else
            (2, 0, hds, hn, b_1, b_2, b_3, b_p))
    else
      if t_2.1 = 1 then
        (1, 0, hds, hn, b_1, b_2, b_3, b_p)
      else
        (3, 0, hds, hn, b_1, b_2, b_3, b_p))
def vs_k_X10_reason : List Cond := .code yX10_reason cX10_reason 8 (some .int) :: ([.methodLink RX10 299 yX10_checkedAnswer, .instanceMethod yX10_checkedAnswer, .selects RX10 yX10_checkedAnswer yX10_checkedAnswer, .initialized RX10, .methodLink RX10 206 yX10_checkedAtom, .instanceMethod yX10_checkedAtom, .selects RX10 yX10_checkedAtom yX10_checkedAtom, .fieldLink RX10 30 "AnswerFold" "solver" "LAnswerFold$Solver;", .methodLink RX10 302 yX9_isIn, .instanceMethod yX9_isIn, .selects RX9 yX9_isIn yX9_isIn, .initialized RX9, .classLink RX10 333 "java/util/NoSuchElementException", .initialized "java/util/NoSuchElementException", .methodLink RX10 329 yX9_reasonFor, .instanceMethod yX9_reasonFor, .selects RX9 yX9_reasonFor yX9_reasonFor] ++ (vs_k_X10_checkedAnswer ++ (vs_k_X10_checkedAtom ++ (u_ws RX10 TX10 7 ++ (vs_k_X9_isIn ++ ((vx_atS RX10 337 "java/util/NoSuchElementException" ["java/lang/RuntimeException", "java/lang/Exception"]).filter goodWord ++ (vs_k_X9_reasonFor)))))))
theorem iv_k_X10_reason_X10 : ∀ w ∈ u_ws RX10 TX10 7, w ∈ vs_k_X10_reason := (fun _ h => List.mem_cons_of_mem _ (List.mem_append_right _ (List.mem_append_right _ (List.mem_append_right _ (List.mem_append_left _ h)))))
set_option maxRecDepth 20000 in
theorem gv_k_X10_reason_0 : GoodIn vs_k_X10_reason (wsV RX10 299 RX10 yX10_checkedAnswer vs_k_X10_checkedAnswer) := goodIn_app (goodIn_sub (by decide +kernel) (by decide +kernel)) (goodIn_sub (fun _ h => List.mem_cons_of_mem _ (List.mem_append_right _ (List.mem_append_left _ h))) (by decide +kernel))
set_option maxRecDepth 20000 in
theorem gv_k_X10_reason_1 : GoodIn vs_k_X10_reason (wsV RX10 206 RX10 yX10_checkedAtom vs_k_X10_checkedAtom) := goodIn_app (goodIn_sub (by decide +kernel) (by decide +kernel)) (goodIn_sub (fun _ h => List.mem_cons_of_mem _ (List.mem_append_right _ (List.mem_append_right _ (List.mem_append_left _ h)))) (by decide +kernel))
set_option maxRecDepth 20000 in
theorem gv_k_X10_reason_2 : GoodIn vs_k_X10_reason (wsV RX10 302 RX9 yX9_isIn vs_k_X9_isIn) := goodIn_app (goodIn_sub (by decide +kernel) (by decide +kernel)) (goodIn_sub (fun _ h => List.mem_cons_of_mem _ (List.mem_append_right _ (List.mem_append_right _ (List.mem_append_right _ (List.mem_append_right _ (List.mem_append_left _ h)))))) (by decide +kernel))
set_option maxRecDepth 20000 in
theorem gv_k_X10_reason_3 : GoodIn vs_k_X10_reason (wsV RX10 329 RX9 yX9_reasonFor vs_k_X9_reasonFor) := goodIn_app (goodIn_sub (by decide +kernel) (by decide +kernel)) (goodIn_sub (fun _ h => List.mem_cons_of_mem _ (List.mem_append_right _ (List.mem_append_right _ (List.mem_append_right _ (List.mem_append_right _ (List.mem_append_right _ (List.mem_append_right _ (h)))))))) (by decide +kernel))
theorem ix_k_X10_reason_337 : ∀ w ∈ (vx_atS RX10 337 "java/util/NoSuchElementException" ["java/lang/RuntimeException", "java/lang/Exception"]).filter goodWord, w ∈ vs_k_X10_reason := (fun _ h => List.mem_cons_of_mem _ (List.mem_append_right _ (List.mem_append_right _ (List.mem_append_right _ (List.mem_append_right _ (List.mem_append_right _ (List.mem_append_left _ h)))))))
set_option maxHeartbeats 4000000 in
set_option maxRecDepth 100000 in
theorem k_X10_reason (l : Launch) (hl9 : l.stackTraces = false) (D : va_G) (ty : Nat → ClassId) (td mi sz : Nat) (pp : pT) (X : Nat → Nat) (pn : Int32) (rn : Int32) (tn : Int32) (en : Int32) (pl : Nat → Int32) (rf : Nat → Option Nat) (ea : Nat → Int32) (es : Nat → Int32) (hn : Int32) (kn : Int32) (on : Int32) (cu : Int32) (pu : Int32) (gw : Int32) (b_1 : Int32) (b_2 : Int32) (b_3 : Int32) (b_p : Int32) (su : Nat → Int64) (hds : Nat → Int32) (kr : Nat → Int32) (kv : Nat → Int32) (ob : Nat → Int32) (an : Int32) (ch : Int32) (cg : Int32) (fb : Int32) (mh : Int32) (ml : Int32) (ih : Int32) (lb : Int32) (ic : Int32) (obi : Nat → Int32) (sc : Nat → Int32) (nn : Int32) (kp : Int32) (se : Nat → Int32) (a1 : Int32) (a2 : Int32) (a3 : Int32) (a4 : Int32) (hok : pOK pp) (hru : ∀ (i a : Nat), rf i = some a → a ∈ pRA pp) (hch : ∀ i : Nat, narrow .char (.int (es i)) = .int (es i)) (TT : r_k_X10_reason) (hTT : TT = m_k_X10_reason pp pn rn en pl rf ea es hn kn on b_1 b_2 b_3 b_p su hds kr kv ob obi sc nn kp se a1 a2 a3 a4) : vx_Met l yX10_reason vs_k_X10_reason { frames := 8, cells := 4, slots := 24, locals := 136 } (va_Pc [.ref (X 0), .int a1, .int a2, .int a3, .int a4] (wq_P D ty td mi ((wW_k_X10_reason ty X pn rn tn en pl rf ea es hn kn on cu pu gw b_1 b_2 b_3 b_p su hds kr kv ob an ch cg fb mh ml ih lb ic obi sc nn kp se) ++ pw ty pp) sz)) (va_Qi (fun (r : Int32) (u : va_W) => (TT.1 = 0 ∧ r = TT.2.1 ∧ (u = ((wW_k_X10_reason ty X pn rn tn en pl rf ea es TT.2.2.2.1 kn on cu pu gw TT.2.2.2.2.1 TT.2.2.2.2.2.1 TT.2.2.2.2.2.2.1 TT.2.2.2.2.2.2.2 su TT.2.2.1 kr kv ob an ch cg fb mh ml ih lb ic obi sc nn kp se) ++ pw ty pp)))) (wq_B D (va_A ((wW_k_X10_reason ty X pn rn tn en pl rf ea es hn kn on cu pu gw b_1 b_2 b_3 b_p su hds kr kv ob an ch cg fb mh ml ih lb ic obi sc nn kp se) ++ pw ty pp) sz)) (va_A ((wW_k_X10_reason ty X pn rn tn en pl rf ea es hn kn on cu pu gw b_1 b_2 b_3 b_p su hds kr kv ob an ch cg fb mh ml ih lb ic obi sc nn kp se) ++ pw ty pp) sz)) (vx_X (fun u : String × va_W => (TT.1 = 1 ∧ u = ("java/lang/IndexOutOfBoundsException", ((wW_k_X10_reason ty X pn rn tn en pl rf ea es TT.2.2.2.1 kn on cu pu gw TT.2.2.2.2.1 TT.2.2.2.2.2.1 TT.2.2.2.2.2.2.1 TT.2.2.2.2.2.2.2 su TT.2.2.1 kr kv ob an ch cg fb mh ml ih lb ic obi sc nn kp se) ++ pw ty pp))) ∨ (TT.1 = 2 ∧ u = ("java/lang/IllegalArgumentException", ((wW_k_X10_reason ty X pn rn tn en pl rf ea es TT.2.2.2.1 kn on cu pu gw TT.2.2.2.2.1 TT.2.2.2.2.2.1 TT.2.2.2.2.2.2.1 TT.2.2.2.2.2.2.2 su TT.2.2.1 kr kv ob an ch cg fb mh ml ih lb ic obi sc nn kp se) ++ pw ty pp))) ∨ (TT.1 = 3 ∧ u = ("java/lang/IllegalStateException", ((wW_k_X10_reason ty X pn rn tn en pl rf ea es TT.2.2.2.1 kn on cu pu gw TT.2.2.2.2.1 TT.2.2.2.2.2.1 TT.2.2.2.2.2.2.1 TT.2.2.2.2.2.2.2 su TT.2.2.1 kr kv ob an ch cg fb mh ml ih lb ic obi sc nn kp se) ++ pw ty pp))) ∨ (TT.1 = 5 ∧ u = ("java/util/NoSuchElementException", ((wW_k_X10_reason ty X pn rn tn en pl rf ea es TT.2.2.2.1 kn on cu pu gw TT.2.2.2.2.1 TT.2.2.2.2.2.1 TT.2.2.2.2.2.2.1 TT.2.2.2.2.2.2.2 su TT.2.2.1 kr kv ob an ch cg fb mh ml ih lb ic obi sc nn kp se) ++ pw ty pp)))) (wq_BX D (va_A ((wW_k_X10_reason ty X pn rn tn en pl rf ea es hn kn on cu pu gw b_1 b_2 b_3 b_p su hds kr kv ob an ch cg fb mh ml ih lb ic obi sc nn kp se) ++ pw ty pp) sz)) (va_A ((wW_k_X10_reason ty X pn rn tn en pl rf ea es hn kn on cu pu gw b_1 b_2 b_3 b_p su hds kr kv ob an ch cg fb mh ml ih lb ic obi sc nn kp se) ++ pw ty pp) sz)) 4 24 (va_A ((wW_k_X10_reason ty X pn rn tn en pl rf ea es hn kn on cu pu gw b_1 b_2 b_3 b_p su hds kr kv ob an ch cg fb mh ml ih lb ic obi sc nn kp se) ++ pw ty pp) sz) := by
  refine vx_ofW (cc := cX10_reason) (maxL := 8) (ret := (some .int)) (by decide) rfl ?_
  intro p e s m args below meth c s₁ B hml hEx hv
  obtain ⟨rfl, hsz, hP, hK, hD0, hE⟩ := hv
  have hx := B.exec
  have hb := B.bytes
  have hr := B.returns
  have hts := atoms_spec (ws := vs_k_X10_reason) B.pre
  have hown : s.vm.findClass RX10 = some m.cls := findClass_of_methodNamed B.named
  have hlocks := B.notSynchronized
  subst hsz
  have hD := hD0.self (sz := s.heap.size)
  generalize hAe : va_A ((wW_k_X10_reason ty X pn rn tn en pl rf ea es hn kn on cu pu gw b_1 b_2 b_3 b_p su hds kr kv ob an ch cg fb mh ml ih lb ic obi sc nn kp se) ++ pw ty pp) s.heap.size = A at hD hE ⊢
  have hA : ∀ q : Nat, s.heap.size ≤ q → A q := fun q h => by rw [← hAe]; exact Or.inr h
  have hS : va_S A s.heap s.heap [] := va_S.rf
  have hP : va_P D vwCl ((wW_k_X10_reason ty X pn rn tn en pl rf ea es hn kn on cu pu gw b_1 b_2 b_3 b_p su hds kr kv ob an ch cg fb mh ml ih lb ic obi sc nn kp se) ++ pw ty pp) s.heap := hP
  have hl := lv_entry ([.ref (X 0), .int a1, .int a2, .int a3, .int a4]) (n := 8) (Nat.le_of_ble_eq_true rfl)
  rw [lg_entry_eq]
  generalize (lg_sl ([.ref (X 0), .int a1, .int a2, .int a3, .int a4]) ++ List.replicate (8 - (lg_sl ([.ref (X 0), .int a1, .int a2, .int a3, .int a4])).length) Slot.unset).toArray = ls at hl ⊢
  have hl : lv_has ls 8 [(0, .ref (X 0)), (1, .int a1), (2, .int a2), (3, .int a3), (4, .int a4)] := hl
  have END : ∀ (r : Int32) (e0 : Nat → Int32) (e1 : Int32) (e2 : Int32) (e3 : Int32) (e4 : Int32) (e5 : Int32), TT = (0, r, e0, e1, e2, e3, e4, e5) → ∀ (H : Heap) (locs : List Loc), va_P D vwCl ((wW_k_X10_reason ty X pn rn tn en pl rf ea es e1 kn on cu pu gw e2 e3 e4 e5 su e0 kr kv ob an ch cg fb mh ml ih lb ic obi sc nn kp se) ++ pw ty pp) H → va_D A ((wW_k_X10_reason ty X pn rn tn en pl rf ea es e1 kn on cu pu gw e2 e3 e4 e5 su e0 kr kv ob an ch cg fb mh ml ih lb ic obi sc nn kp se) ++ pw ty pp) → va_S A s.heap H locs → ∀ (ls : Array Slot) (pc : Nat), decode cX10_reason pc = .ok (.ireturn, 1) → W p l e (headSpec vs_k_X10_reason { frames := 8, cells := 4, slots := 24, locals := 136 }).room s m ([.ref (X 0), .int a1, .int a2, .int a3, .int a4] : List Value).toArray below meth c H locs 4 24 (vx_MQ below (va_Qi (fun (r : Int32) (u : va_W) => (TT.1 = 0 ∧ r = TT.2.1 ∧ (u = ((wW_k_X10_reason ty X pn rn tn en pl rf ea es TT.2.2.2.1 kn on cu pu gw TT.2.2.2.2.1 TT.2.2.2.2.2.1 TT.2.2.2.2.2.2.1 TT.2.2.2.2.2.2.2 su TT.2.2.1 kr kv ob an ch cg fb mh ml ih lb ic obi sc nn kp se) ++ pw ty pp)))) (wq_B D A) A) (vx_X (fun u : String × va_W => (TT.1 = 1 ∧ u = ("java/lang/IndexOutOfBoundsException", ((wW_k_X10_reason ty X pn rn tn en pl rf ea es TT.2.2.2.1 kn on cu pu gw TT.2.2.2.2.1 TT.2.2.2.2.2.1 TT.2.2.2.2.2.2.1 TT.2.2.2.2.2.2.2 su TT.2.2.1 kr kv ob an ch cg fb mh ml ih lb ic obi sc nn kp se) ++ pw ty pp))) ∨ (TT.1 = 2 ∧ u = ("java/lang/IllegalArgumentException", ((wW_k_X10_reason ty X pn rn tn en pl rf ea es TT.2.2.2.1 kn on cu pu gw TT.2.2.2.2.1 TT.2.2.2.2.2.1 TT.2.2.2.2.2.2.1 TT.2.2.2.2.2.2.2 su TT.2.2.1 kr kv ob an ch cg fb mh ml ih lb ic obi sc nn kp se) ++ pw ty pp))) ∨ (TT.1 = 3 ∧ u = ("java/lang/IllegalStateException", ((wW_k_X10_reason ty X pn rn tn en pl rf ea es TT.2.2.2.1 kn on cu pu gw TT.2.2.2.2.1 TT.2.2.2.2.2.1 TT.2.2.2.2.2.2.1 TT.2.2.2.2.2.2.2 su TT.2.2.1 kr kv ob an ch cg fb mh ml ih lb ic obi sc nn kp se) ++ pw ty pp))) ∨ (TT.1 = 5 ∧ u = ("java/util/NoSuchElementException", ((wW_k_X10_reason ty X pn rn tn en pl rf ea es TT.2.2.2.1 kn on cu pu gw TT.2.2.2.2.1 TT.2.2.2.2.2.1 TT.2.2.2.2.2.2.1 TT.2.2.2.2.2.2.2 su TT.2.2.1 kr kv ob an ch cg fb mh ml ih lb ic obi sc nn kp se) ++ pw ty pp)))) (wq_BX D A) A) ([.ref (X 0), .int a1, .int a2, .int a3, .int a4] : List Value).toArray s 4 24 A) (F0 m pc ls [.int r]) := by
    intro r e0 e1 e2 e3 e4 e5 hT H locs hP hD hS ls pc hd
    have hM : TT = (0, r, e0, e1, e2, e3, e4, e5) := hT
    refine vx_ret ?_
    exact W.iret (v := r) hx hb hr (fun t ht hW => ⟨⟨r, ((wW_k_X10_reason ty X pn rn tn en pl rf ea es e1 kn on cu pu gw e2 e3 e4 e5 su e0 kr kv ob an ch cg fb mh ml ih lb ic obi sc nn kp se) ++ pw ty pp), rfl, ⟨(by rw [hM]), (by rw [hM]), (by rw [hM])⟩, wq_B.of ht hP hD⟩, hS.F ht⟩) hS.2.2 hd
  have hT := hTT
  rw [m_k_X10_reason] at hT
  refine lv_aload_n hx hb dX10_reason_0 rfl (lv_at hl 0 rfl) ?_
  refine lv_iload_n hx hb dX10_reason_1 rfl (lv_at hl 1 rfl) ?_
  obtain ⟨t_2, ht_2⟩ : ∃ t, t = m_k_X10_checkedAnswer nn kp se a1 := ⟨_, rfl⟩
  rw [lE_eq ht_2] at hT
  refine wq_xiQW (wc := (wW_k_X10_checkedAnswer ty X nn kp se)) (pl := pw ty pp) (vx_runV (As := [.int a1]) (rest := []) ⟨hx, hb, hml, hown, hts⟩ (k_X10_checkedAnswer l hl9 D ty td mi s.heap.size X nn kp se a1 t_2 ht_2) (cwV 1 hts gv_k_X10_reason_0 rfl rfl rfl (by decide +kernel) ⟨(Nat.le_of_ble_eq_true rfl), (Nat.le_of_ble_eq_true rfl)⟩) (wm_V (wm_preS (vP_left hP) (vD_left hD) hK hE hS hA [true, false, false, false, false, false, false, false, false, false, false, false, false, false, false, false, false, true, true] rfl) (va_recv (q0 := 0) (ci := 12) hK hP rfl rfl)) rfl rfl hl.1 rfl (lv_room (Nat.le_of_ble_eq_true rfl)) dX10_reason_2 ⟨(Nat.le_of_ble_eq_true rfl), (Nat.le_of_ble_eq_true rfl)⟩) hS hA hP hD [true, false, false, false, false, false, false, false, false, false, false, false, false, false, false, false, false, true, true] rfl (fun _ _ h => by rcases h with ⟨-, -, rfl⟩; rfl) (fun _ _ h => by rcases h with ⟨-, h⟩ | ⟨-, h⟩ <;> (cases h; rfl)) (fun E9 u H locs q9 ce hw hP hD hS hce hcv hcl => ?_) (fun r u H locs hw hP hD hS => ?_)
  · rcases hw with ⟨c_1, hEq⟩ | ⟨c_2, hEq⟩
    · cases hEq
      rw [if_neg (show ¬ t_2.1 = 0 by rw [c_1]; decide)] at hT
      rw [if_pos c_1] at hT
      have hP : va_P D vwCl ((wW_k_X10_reason ty X pn rn tn en pl rf ea es hn kn on cu pu gw b_1 b_2 b_3 b_p su hds kr kv ob an ch cg fb mh ml ih lb ic obi sc nn kp se) ++ pw ty pp) H := hP
      have hD : va_D A ((wW_k_X10_reason ty X pn rn tn en pl rf ea es hn kn on cu pu gw b_1 b_2 b_3 b_p su hds kr kv ob an ch cg fb mh ml ih lb ic obi sc nn kp se) ++ pw ty pp) := hD
      refine vx_widen (k := 4) (n := 24) (Nat.le_of_ble_eq_true rfl) (Nat.le_of_ble_eq_true rfl) ?_
      exact vx_out (E := "java/lang/IndexOutOfBoundsException") (fun x hx => (hEx x hx).elim) hlocks hce hcv hcl (fun t ht ha => wq_thrW0 (W := ((wW_k_X10_reason ty X pn rn tn en pl rf ea es hn kn on cu pu gw b_1 b_2 b_3 b_p su hds kr kv ob an ch cg fb mh ml ih lb ic obi sc nn kp se) ++ pw ty pp)) hS hP hD (by exact (Or.inl ⟨(by rw [hT]), (by first | rw [hT] | rfl)⟩)) ht) hS.2.2 (Nat.le_refl _) (Nat.le_refl _)
    · cases hEq
      rw [if_neg (show ¬ t_2.1 = 0 by rw [c_2]; decide)] at hT
      rw [if_neg (show ¬ t_2.1 = 1 by rw [c_2]; decide)] at hT
      have hP : va_P D vwCl ((wW_k_X10_reason ty X pn rn tn en pl rf ea es hn kn on cu pu gw b_1 b_2 b_3 b_p su hds kr kv ob an ch cg fb mh ml ih lb ic obi sc nn kp se) ++ pw ty pp) H := hP
      have hD : va_D A ((wW_k_X10_reason ty X pn rn tn en pl rf ea es hn kn on cu pu gw b_1 b_2 b_3 b_p su hds kr kv ob an ch cg fb mh ml ih lb ic obi sc nn kp se) ++ pw ty pp) := hD
      refine vx_widen (k := 4) (n := 24) (Nat.le_of_ble_eq_true rfl) (Nat.le_of_ble_eq_true rfl) ?_
      exact vx_out (E := "java/lang/IllegalStateException") (fun x hx => (hEx x hx).elim) hlocks hce hcv hcl (fun t ht ha => wq_thrW0 (W := ((wW_k_X10_reason ty X pn rn tn en pl rf ea es hn kn on cu pu gw b_1 b_2 b_3 b_p su hds kr kv ob an ch cg fb mh ml ih lb ic obi sc nn kp se) ++ pw ty pp)) hS hP hD (by exact (Or.inr (Or.inr (Or.inl ⟨(by rw [hT]), (by first | rw [hT] | rfl)⟩)))) ht) hS.2.2 (Nat.le_refl _) (Nat.le_refl _)
  · obtain ⟨c_3, rfl, rfl⟩ := hw
    rw [if_pos c_3] at hT
    have hP : va_P D vwCl ((wW_k_X10_reason ty X pn rn tn en pl rf ea es hn kn on cu pu gw b_1 b_2 b_3 b_p su hds kr kv ob an ch cg fb mh ml ih lb ic obi sc nn kp se) ++ pw ty pp) H := hP
    have hD : va_D A ((wW_k_X10_reason ty X pn rn tn en pl rf ea es hn kn on cu pu gw b_1 b_2 b_3 b_p su hds kr kv ob an ch cg fb mh ml ih lb ic obi sc nn kp se) ++ pw ty pp) := hD
    refine W.widen (k := 2) (n := 12) (Nat.le_of_ble_eq_true rfl) (Nat.le_of_ble_eq_true rfl) ?_
    refine lv_istore (lv' := [(5, .int t_2.2), (0, .ref (X 0)), (1, .int a1), (2, .int a2), (3, .int a3), (4, .int a4)]) hx hb dX10_reason_5 hl (by decide) rfl (fun ls hl => ?_)
    refine lv_aload_n hx hb dX10_reason_7 rfl (lv_at hl 1 rfl) ?_
    refine lv_iload_n hx hb dX10_reason_8 rfl (lv_at hl 3 rfl) ?_
    refine lv_iload_n hx hb dX10_reason_9 rfl (lv_at hl 4 rfl) ?_
    refine lv_iload hx hb dX10_reason_10 (lv_at hl 5 rfl) ?_
    obtain ⟨t_12, ht_12⟩ : ∃ t, t = m_k_X10_checkedAtom pn pl a2 a3 a4 := ⟨_, rfl⟩
    rw [lE_eq ht_12] at hT
    refine wq_xiQW (wc := (wW_k_X10_checkedAtom ty X pn rn tn en pl)) (pl := pw ty pp) (vx_runV (As := [.int a2, .int a3, .int a4]) (rest := []) ⟨hx, hb, hml, hown, hts⟩ (k_X10_checkedAtom l hl9 D ty td mi H.size X pn rn tn en pl a2 a3 a4 t_12 ht_12) (cwV 3 hts gv_k_X10_reason_1 rfl rfl rfl (by decide +kernel) ⟨(Nat.le_of_ble_eq_true rfl), (Nat.le_of_ble_eq_true rfl)⟩) (wm_V (wm_preS (vP_left hP) (vD_left hD) hK hE hS hA [true, true, true] rfl) (va_recv (q0 := 0) (ci := 12) hK hP rfl rfl)) rfl rfl hl.1 rfl (lv_room (Nat.le_of_ble_eq_true rfl)) dX10_reason_12 ⟨(Nat.le_of_ble_eq_true rfl), (Nat.le_of_ble_eq_true rfl)⟩) hS hA hP hD [true, true, true] rfl (fun _ _ h => by rcases h with ⟨-, -, rfl⟩; rfl) (fun _ _ h => by rcases h with ⟨-, h⟩ | ⟨-, h⟩ <;> (cases h; rfl)) (fun E9 u H locs q9 ce hw hP hD hS hce hcv hcl => ?_) (fun r u H locs hw hP hD hS => ?_)
    · rcases hw with ⟨c_5, hEq⟩ | ⟨c_6, hEq⟩
      · cases hEq
        rw [if_neg (show ¬ t_12.1 = 0 by rw [c_5]; decide)] at hT
        rw [if_pos c_5] at hT
        have hP : va_P D vwCl ((wW_k_X10_reason ty X pn rn tn en pl rf ea es hn kn on cu pu gw b_1 b_2 b_3 b_p su hds kr kv ob an ch cg fb mh ml ih lb ic obi sc nn kp se) ++ pw ty pp) H := hP
        have hD : va_D A ((wW_k_X10_reason ty X pn rn tn en pl rf ea es hn kn on cu pu gw b_1 b_2 b_3 b_p su hds kr kv ob an ch cg fb mh ml ih lb ic obi sc nn kp se) ++ pw ty pp) := hD
        refine vx_widen (k := 4) (n := 24) (Nat.le_of_ble_eq_true rfl) (Nat.le_of_ble_eq_true rfl) ?_
        exact vx_out (E := "java/lang/IndexOutOfBoundsException") (fun x hx => (hEx x hx).elim) hlocks hce hcv hcl (fun t ht ha => wq_thrW0 (W := ((wW_k_X10_reason ty X pn rn tn en pl rf ea es hn kn on cu pu gw b_1 b_2 b_3 b_p su hds kr kv ob an ch cg fb mh ml ih lb ic obi sc nn kp se) ++ pw ty pp)) hS hP hD (by exact (Or.inl ⟨(by rw [hT]), (by first | rw [hT] | rfl)⟩)) ht) hS.2.2 (Nat.le_refl _) (Nat.le_refl _)
      · cases hEq
        rw [if_neg (show ¬ t_12.1 = 0 by rw [c_6]; decide)] at hT
        rw [if_neg (show ¬ t_12.1 = 1 by rw [c_6]; decide)] at hT
        have hP : va_P D vwCl ((wW_k_X10_reason ty X pn rn tn en pl rf ea es hn kn on cu pu gw b_1 b_2 b_3 b_p su hds kr kv ob an ch cg fb mh ml ih lb ic obi sc nn kp se) ++ pw ty pp) H := hP
        have hD : va_D A ((wW_k_X10_reason ty X pn rn tn en pl rf ea es hn kn on cu pu gw b_1 b_2 b_3 b_p su hds kr kv ob an ch cg fb mh ml ih lb ic obi sc nn kp se) ++ pw ty pp) := hD
        refine vx_widen (k := 4) (n := 24) (Nat.le_of_ble_eq_true rfl) (Nat.le_of_ble_eq_true rfl) ?_
        exact vx_out (E := "java/lang/IllegalArgumentException") (fun x hx => (hEx x hx).elim) hlocks hce hcv hcl (fun t ht ha => wq_thrW0 (W := ((wW_k_X10_reason ty X pn rn tn en pl rf ea es hn kn on cu pu gw b_1 b_2 b_3 b_p su hds kr kv ob an ch cg fb mh ml ih lb ic obi sc nn kp se) ++ pw ty pp)) hS hP hD (by exact (Or.inr (Or.inl ⟨(by rw [hT]), (by first | rw [hT] | rfl)⟩))) ht) hS.2.2 (Nat.le_refl _) (Nat.le_refl _)
    · obtain ⟨c_7, rfl, rfl⟩ := hw
      rw [if_pos c_7] at hT
      have hP : va_P D vwCl ((wW_k_X10_reason ty X pn rn tn en pl rf ea es hn kn on cu pu gw b_1 b_2 b_3 b_p su hds kr kv ob an ch cg fb mh ml ih lb ic obi sc nn kp se) ++ pw ty pp) H := hP
      have hD : va_D A ((wW_k_X10_reason ty X pn rn tn en pl rf ea es hn kn on cu pu gw b_1 b_2 b_3 b_p su hds kr kv ob an ch cg fb mh ml ih lb ic obi sc nn kp se) ++ pw ty pp) := hD
      refine W.widen (k := 3) (n := 18) (Nat.le_of_ble_eq_true rfl) (Nat.le_of_ble_eq_true rfl) ?_
      refine lv_istore (lv' := [(6, .int t_12.2), (5, .int t_2.2), (0, .ref (X 0)), (1, .int a1), (2, .int a2), (3, .int a3), (4, .int a4)]) hx hb dX10_reason_15 hl (by decide) rfl (fun ls hl => ?_)
      refine lv_aload_n hx hb dX10_reason_17 rfl (lv_at hl 2 rfl) ?_
      refine va_get (D := D) (ci := 12) (v := .ref (X 20)) (C := RX10) (T := TX10) (N := 7) hx hb hts iv_k_X10_reason_X10 hown hK hP 0 rfl rfl 2 (by decide) (hts (.fieldLink RX10 30 "AnswerFold" "solver" "LAnswerFold$Solver;") (by decide +kernel)) (fun _ h9 => h9) rfl dX10_reason_18 ?_
      refine lv_iload hx hb dX10_reason_21 (lv_at hl 1 rfl) ?_
      refine lv_iload hx hb dX10_reason_23 (lv_at hl 0 rfl) ?_
      obtain ⟨t_25, ht_25⟩ : ∃ t, t = m_k_X9_isIn on su ob t_2.2 t_12.2 := ⟨_, rfl⟩
      rw [lE_eq ht_25] at hT
      refine wq_iQW (wc := (wW_k_X9_isIn ty X hn kn on cu pu gw su ob an ch cg fb mh ml ih lb ic)) (pl := pw ty pp) (va_runV (As := [.int t_2.2, .int t_12.2]) (rest := []) ⟨hx, hb, hml, hown, hts⟩ (k_X9_isIn l D ty td mi H.size X hn kn on cu pu gw su ob an ch cg fb mh ml ih lb ic t_2.2 t_12.2 t_25 ht_25) (cwV 2 hts gv_k_X10_reason_2 rfl rfl rfl (by decide +kernel) ⟨(Nat.le_of_ble_eq_true rfl), (Nat.le_of_ble_eq_true rfl)⟩) (wm_V (wm_preS (vP_left hP) (vD_left hD) hK hE hS hA [false, false, false, false, false, false, true, false, true, true, false, false, false, true, true] rfl) (va_recv (q0 := 14) (ci := 11) hK hP rfl rfl)) rfl rfl hl.1 rfl (lv_room (Nat.le_of_ble_eq_true rfl)) dX10_reason_25 ⟨(Nat.le_of_ble_eq_true rfl), (Nat.le_of_ble_eq_true rfl)⟩) hS hA hP hD [false, false, false, false, false, false, true, false, true, true, false, false, false, true, true] rfl (fun _ _ h => by rcases h with ⟨-, -, rfl⟩; rfl) (fun r u H locs hw hP hD hS => ?_)
      obtain ⟨hr0, c_11, rfl⟩ := hw
      subst r
      have hP : va_P D vwCl ((wW_k_X10_reason ty X pn rn tn en pl rf ea es hn kn on cu pu gw b_1 b_2 b_3 b_p su hds kr kv ob an ch cg fb mh ml ih lb ic obi sc nn kp se) ++ pw ty pp) H := hP
      have hD : va_D A ((wW_k_X10_reason ty X pn rn tn en pl rf ea es hn kn on cu pu gw b_1 b_2 b_3 b_p su hds kr kv ob an ch cg fb mh ml ih lb ic obi sc nn kp se) ++ pw ty pp) := hD
      refine W.widen (k := 3) (n := 18) (Nat.le_of_ble_eq_true rfl) (Nat.le_of_ble_eq_true rfl) ?_
      have J_46 : ∀ (s0_46 : Int32) (x14_f_46 : Nat → Int32) (x8_5_46 : Int32) (x9_0_46 : Int32) (x9_1_46 : Int32) (x9_2_46 : Int32) (x9_3_46 : Int32), TT = m_k_X10_reason_46 s0_46 x14_f_46 x8_5_46 x9_0_46 x9_1_46 x9_2_46 x9_3_46 → ∀ (H : Heap) (locs : List Loc), va_P D vwCl ((wW_k_X10_reason ty X pn rn tn en pl rf ea es x8_5_46 kn on cu pu gw x9_0_46 x9_1_46 x9_2_46 x9_3_46 su x14_f_46 kr kv ob an ch cg fb mh ml ih lb ic obi sc nn kp se) ++ pw ty pp) H → va_D A ((wW_k_X10_reason ty X pn rn tn en pl rf ea es x8_5_46 kn on cu pu gw x9_0_46 x9_1_46 x9_2_46 x9_3_46 su x14_f_46 kr kv ob an ch cg fb mh ml ih lb ic obi sc nn kp se) ++ pw ty pp) → va_S A s.heap H locs → ∀ ls : Array Slot, lv_has ls 8 [] → W p l e (headSpec vs_k_X10_reason { frames := 8, cells := 4, slots := 24, locals := 136 }).room s m ([.ref (X 0), .int a1, .int a2, .int a3, .int a4] : List Value).toArray below meth c H locs 3 18 (vx_MQ below (va_Qi (fun (r : Int32) (u : va_W) => (TT.1 = 0 ∧ r = TT.2.1 ∧ (u = ((wW_k_X10_reason ty X pn rn tn en pl rf ea es TT.2.2.2.1 kn on cu pu gw TT.2.2.2.2.1 TT.2.2.2.2.2.1 TT.2.2.2.2.2.2.1 TT.2.2.2.2.2.2.2 su TT.2.2.1 kr kv ob an ch cg fb mh ml ih lb ic obi sc nn kp se) ++ pw ty pp)))) (wq_B D A) A) (vx_X (fun u : String × va_W => (TT.1 = 1 ∧ u = ("java/lang/IndexOutOfBoundsException", ((wW_k_X10_reason ty X pn rn tn en pl rf ea es TT.2.2.2.1 kn on cu pu gw TT.2.2.2.2.1 TT.2.2.2.2.2.1 TT.2.2.2.2.2.2.1 TT.2.2.2.2.2.2.2 su TT.2.2.1 kr kv ob an ch cg fb mh ml ih lb ic obi sc nn kp se) ++ pw ty pp))) ∨ (TT.1 = 2 ∧ u = ("java/lang/IllegalArgumentException", ((wW_k_X10_reason ty X pn rn tn en pl rf ea es TT.2.2.2.1 kn on cu pu gw TT.2.2.2.2.1 TT.2.2.2.2.2.1 TT.2.2.2.2.2.2.1 TT.2.2.2.2.2.2.2 su TT.2.2.1 kr kv ob an ch cg fb mh ml ih lb ic obi sc nn kp se) ++ pw ty pp))) ∨ (TT.1 = 3 ∧ u = ("java/lang/IllegalStateException", ((wW_k_X10_reason ty X pn rn tn en pl rf ea es TT.2.2.2.1 kn on cu pu gw TT.2.2.2.2.1 TT.2.2.2.2.2.1 TT.2.2.2.2.2.2.1 TT.2.2.2.2.2.2.2 su TT.2.2.1 kr kv ob an ch cg fb mh ml ih lb ic obi sc nn kp se) ++ pw ty pp))) ∨ (TT.1 = 5 ∧ u = ("java/util/NoSuchElementException", ((wW_k_X10_reason ty X pn rn tn en pl rf ea es TT.2.2.2.1 kn on cu pu gw TT.2.2.2.2.1 TT.2.2.2.2.2.1 TT.2.2.2.2.2.2.1 TT.2.2.2.2.2.2.2 su TT.2.2.1 kr kv ob an ch cg fb mh ml ih lb ic obi sc nn kp se) ++ pw ty pp)))) (wq_BX D A) A) ([.ref (X 0), .int a1, .int a2, .int a3, .int a4] : List Value).toArray s 4 24 A) (F0 m 46 ls [.int s0_46]) := by
        intro s0_46 x14_f_46 x8_5_46 x9_0_46 x9_1_46 x9_2_46 x9_3_46 hT  H locs hP hD hS ls hl
        rw [m_k_X10_reason_46] at hT
        refine lv_istore (lv' := [(7, .int s0_46)]) hx hb dX10_reason_46 hl (by decide) rfl (fun ls hl => ?_)
        refine lv_iload hx hb dX10_reason_48 (lv_at hl 0 rfl) ?_
        refine lv_iconst (v := (-1)) hx hb dX10_reason_50 (by decide) ?_
        refine lv_icmp_ne (tgt := 65) hx hb dX10_reason_51 (by decide) (fun c_12 => ?_) (fun c_12 => ?_)
        · rw [if_neg c_12] at hT
          refine lv_iload hx hb dX10_reason_65 (lv_at hl 0 rfl) ?_
          refine W.widen (k := 4) (n := 24) (Nat.le_of_ble_eq_true rfl) (Nat.le_of_ble_eq_true rfl) ?_
          exact END s0_46 x14_f_46 x8_5_46 x9_0_46 x9_1_46 x9_2_46 x9_3_46 hT _ _ hP hD hS _ _ dX10_reason_67
        · rw [if_pos c_12] at hT
          obtain ⟨sa, hsa⟩ := hE.st 335 "it is not in the answer" (by decide +kernel)
          exact vx_throwSW (own := RX10) (cls := "java/util/NoSuchElementException") (text := "it is not in the answer") (names := ["java/lang/RuntimeException", "java/lang/Exception"]) (ik := 333) (is := 335) (ic := 337) (sa := sa) (A := A) hx hb hl9 hown (by decide +kernel) (by decide +kernel) (hts (.classLink RX10 333 "java/util/NoSuchElementException") (by decide +kernel)) (hts (.initialized "java/util/NoSuchElementException") (by decide +kernel)) hsa (wq_hat hE hts ix_k_X10_reason_337 (by decide +kernel) (by decide +kernel)) (by decide +kernel) hE.zu hE.zs hS (hl.1.trans hml.symm) dX10_reason_54 dX10_reason_57 dX10_reason_58 dX10_reason_61 dX10_reason_64 (fun x hx => (hEx x hx).elim) (Nat.le_of_ble_eq_true rfl) (Nat.le_of_ble_eq_true rfl) (Nat.le_of_ble_eq_true rfl) (Nat.le_of_ble_eq_true rfl) hlocks (fun t ha hz hk => wq_thrW (W := ((wW_k_X10_reason ty X pn rn tn en pl rf ea es x8_5_46 kn on cu pu gw x9_0_46 x9_1_46 x9_2_46 x9_3_46 su x14_f_46 kr kv ob an ch cg fb mh ml ih lb ic obi sc nn kp se) ++ pw ty pp)) hS hP hD (by exact (Or.inr (Or.inr (Or.inr ⟨(by rw [hT]), (by first | rw [hT] | rfl)⟩)))) hz hk) hS.2.2 (Nat.le_of_ble_eq_true rfl) (Nat.le_of_ble_eq_true rfl)
      refine lv_if_eq (tgt := 45) hx hb dX10_reason_28 (by decide) (fun c_13 => ?_) (fun c_13 => ?_)
      · rw [if_pos c_13] at hT
        refine lv_iconst (v := (-1)) hx hb dX10_reason_45 (by decide) ?_
        exact J_46 (-1) hds hn b_1 b_2 b_3 b_p hT _ _ hP hD hS _ (lv_sub hl [] rfl)
      · rw [if_neg c_13] at hT
        refine lv_aload_n hx hb dX10_reason_31 rfl (lv_at hl 2 rfl) ?_
        refine va_get (D := D) (ci := 12) (v := .ref (X 20)) (C := RX10) (T := TX10) (N := 7) hx hb hts iv_k_X10_reason_X10 hown hK hP 0 rfl rfl 2 (by decide) (hts (.fieldLink RX10 30 "AnswerFold" "solver" "LAnswerFold$Solver;") (by decide +kernel)) (fun _ h9 => h9) rfl dX10_reason_32 ?_
        refine lv_iload hx hb dX10_reason_35 (lv_at hl 1 rfl) ?_
        refine lv_iload hx hb dX10_reason_37 (lv_at hl 0 rfl) ?_
        obtain ⟨t_39, ht_39⟩ : ∃ t, t = m_k_X9_reasonFor pp rn en rf ea es hn kn on b_1 b_2 b_3 b_p su hds kr kv ob obi sc t_2.2 t_12.2 := ⟨_, rfl⟩
        rw [lE_eq ht_39] at hT
        refine wq_iPW (wc := (wW_k_X9_reasonFor ty X pn rn tn en rf ea es hn kn on cu pu gw b_1 b_2 b_3 b_p su hds kr kv ob an ch cg fb mh ml ih lb ic obi sc)) (pl := pw ty pp) (ux := (wW_k_X9_reasonFor ty X pn rn tn en rf ea es t_39.2.2.1 kn on cu pu gw t_39.2.2.2.1 t_39.2.2.2.2.1 t_39.2.2.2.2.2.1 t_39.2.2.2.2.2.2 su t_39.2.1 kr kv ob an ch cg fb mh ml ih lb ic obi sc)) (va_runV (As := [.int t_2.2, .int t_12.2]) (rest := []) ⟨hx, hb, hml, hown, hts⟩ (k_X9_reasonFor l D ty td mi H.size pp X pn rn tn en rf ea es hn kn on cu pu gw b_1 b_2 b_3 b_p su hds kr kv ob an ch cg fb mh ml ih lb ic obi sc t_2.2 t_12.2 hok hru hch t_39 ht_39) (cwV 2 hts gv_k_X10_reason_3 rfl rfl rfl (by decide +kernel) ⟨(Nat.le_of_ble_eq_true rfl), (Nat.le_of_ble_eq_true rfl)⟩) (wm_V (wm_preSP hP hD hK hE hS hA [false, true, false, true, true, true, true, true, true, true, true, true, true, true, true, true, true] rfl) (va_recv (q0 := 14) (ci := 11) hK hP rfl rfl)) rfl rfl hl.1 rfl (lv_room (Nat.le_of_ble_eq_true rfl)) dX10_reason_39 ⟨(Nat.le_of_ble_eq_true rfl), (Nat.le_of_ble_eq_true rfl)⟩) hS hA hP hD [false, true, false, true, true, true, true, true, true, true, true, true, true, true, true, true, true] rfl rfl (fun _ _ h => h.2) (fun r H locs hw hP hD hS => ?_)
        obtain ⟨rfl, -⟩ := hw
        have hP : va_P D vwCl ((wW_k_X10_reason ty X pn rn tn en pl rf ea es t_39.2.2.1 kn on cu pu gw t_39.2.2.2.1 t_39.2.2.2.2.1 t_39.2.2.2.2.2.1 t_39.2.2.2.2.2.2 su t_39.2.1 kr kv ob an ch cg fb mh ml ih lb ic obi sc nn kp se) ++ pw ty pp) H := hP
        have hD : va_D A ((wW_k_X10_reason ty X pn rn tn en pl rf ea es t_39.2.2.1 kn on cu pu gw t_39.2.2.2.1 t_39.2.2.2.2.1 t_39.2.2.2.2.2.1 t_39.2.2.2.2.2.2 su t_39.2.1 kr kv ob an ch cg fb mh ml ih lb ic obi sc nn kp se) ++ pw ty pp) := hD
        refine W.widen (k := 3) (n := 18) (Nat.le_of_ble_eq_true rfl) (Nat.le_of_ble_eq_true rfl) ?_
        refine lv_goto (tgt := 46) hx hb dX10_reason_42 (by decide) ?_
        exact J_46 t_39.1 t_39.2.1 t_39.2.2.1 t_39.2.2.2.1 t_39.2.2.2.2.1 t_39.2.2.2.2.2.1 t_39.2.2.2.2.2.2 hT _ _ hP hD hS _ (lv_sub hl [] rfl)
theorem dX10_commonest_0 : decode cX10_commonest 0 = .ok (.aload_n 0, 1) := by decide +kernel
theorem dX10_commonest_1 : decode cX10_commonest 1 = .ok (.invokevirtual 312, 3) := by decide +kernel
theorem dX10_commonest_4 : decode cX10_commonest 4 = .ok (.aload_n 0, 1) := by decide +kernel
theorem dX10_commonest_5 : decode cX10_commonest 5 = .ok (.getfield 21, 3) := by decide +kernel
theorem dX10_commonest_8 : decode cX10_commonest 8 = .ok (.getfield 263, 3) := by decide +kernel
theorem dX10_commonest_11 : decode cX10_commonest 11 = .ok (.ifCond .le 13, 3) := by decide +kernel
theorem dX10_commonest_14 : decode cX10_commonest 14 = .ok (.aload_n 0, 1) := by decide +kernel
theorem dX10_commonest_15 : decode cX10_commonest 15 = .ok (.getfield 56, 3) := by decide +kernel
theorem dX10_commonest_18 : decode cX10_commonest 18 = .ok (.getfield 280, 3) := by decide +kernel
theorem dX10_commonest_21 : decode cX10_commonest 21 = .ok (.ifCond .gt 14, 3) := by decide +kernel
theorem dX10_commonest_24 : decode cX10_commonest 24 = .ok (.new 333, 3) := by decide +kernel
theorem dX10_commonest_27 : decode cX10_commonest 27 = .ok (.dup, 1) := by decide +kernel
theorem dX10_commonest_28 : decode cX10_commonest 28 = .ok (.ldc_w 343, 3) := by decide +kernel
theorem dX10_commonest_31 : decode cX10_commonest 31 = .ok (.invokespecial 337, 3) := by decide +kernel
theorem dX10_commonest_34 : decode cX10_commonest 34 = .ok (.athrow, 1) := by decide +kernel
theorem dX10_commonest_35 : decode cX10_commonest 35 = .ok (.iconst (-1), 1) := by decide +kernel
theorem dX10_commonest_36 : decode cX10_commonest 36 = .ok (.istore_n 1, 1) := by decide +kernel
theorem dX10_commonest_37 : decode cX10_commonest 37 = .ok (.iconst 0, 1) := by decide +kernel
theorem dX10_commonest_38 : decode cX10_commonest 38 = .ok (.istore_n 2, 1) := by decide +kernel
theorem dX10_commonest_39 : decode cX10_commonest 39 = .ok (.iconst 0, 1) := by decide +kernel
theorem dX10_commonest_40 : decode cX10_commonest 40 = .ok (.istore_n 3, 1) := by decide +kernel
theorem dX10_commonest_41 : decode cX10_commonest 41 = .ok (.iload_n 3, 1) := by decide +kernel
theorem dX10_commonest_42 : decode cX10_commonest 42 = .ok (.aload_n 0, 1) := by decide +kernel
theorem dX10_commonest_43 : decode cX10_commonest 43 = .ok (.getfield 21, 3) := by decide +kernel
theorem dX10_commonest_46 : decode cX10_commonest 46 = .ok (.getfield 263, 3) := by decide +kernel
theorem dX10_commonest_49 : decode cX10_commonest 49 = .ok (.if_icmp .ge 41, 3) := by decide +kernel
theorem dX10_commonest_52 : decode cX10_commonest 52 = .ok (.aload_n 0, 1) := by decide +kernel
theorem dX10_commonest_53 : decode cX10_commonest 53 = .ok (.aload_n 0, 1) := by decide +kernel
theorem dX10_commonest_54 : decode cX10_commonest 54 = .ok (.getfield 21, 3) := by decide +kernel
theorem dX10_commonest_57 : decode cX10_commonest 57 = .ok (.iload_n 3, 1) := by decide +kernel
theorem dX10_commonest_58 : decode cX10_commonest 58 = .ok (.invokevirtual 345, 3) := by decide +kernel
theorem dX10_commonest_61 : decode cX10_commonest 61 = .ok (.invokevirtual 326, 3) := by decide +kernel
theorem dX10_commonest_64 : decode cX10_commonest 64 = .ok (.istore 4, 2) := by decide +kernel
theorem dX10_commonest_66 : decode cX10_commonest 66 = .ok (.iload 4, 2) := by decide +kernel
theorem dX10_commonest_68 : decode cX10_commonest 68 = .ok (.iload_n 1, 1) := by decide +kernel
theorem dX10_commonest_69 : decode cX10_commonest 69 = .ok (.if_icmp .le 15, 3) := by decide +kernel
theorem dX10_commonest_72 : decode cX10_commonest 72 = .ok (.iload 4, 2) := by decide +kernel
theorem dX10_commonest_74 : decode cX10_commonest 74 = .ok (.istore_n 1, 1) := by decide +kernel
theorem dX10_commonest_75 : decode cX10_commonest 75 = .ok (.aload_n 0, 1) := by decide +kernel
theorem dX10_commonest_76 : decode cX10_commonest 76 = .ok (.getfield 21, 3) := by decide +kernel
theorem dX10_commonest_79 : decode cX10_commonest 79 = .ok (.iload_n 3, 1) := by decide +kernel
theorem dX10_commonest_80 : decode cX10_commonest 80 = .ok (.invokevirtual 345, 3) := by decide +kernel
theorem dX10_commonest_83 : decode cX10_commonest 83 = .ok (.istore_n 2, 1) := by decide +kernel
theorem dX10_commonest_84 : decode cX10_commonest 84 = .ok (.iinc 3 1, 3) := by decide +kernel
theorem dX10_commonest_87 : decode cX10_commonest 87 = .ok (.goto (-46), 3) := by decide +kernel
theorem dX10_commonest_90 : decode cX10_commonest 90 = .ok (.bipush 100, 2) := by decide +kernel
theorem dX10_commonest_92 : decode cX10_commonest 92 = .ok (.iload_n 2, 1) := by decide +kernel
theorem dX10_commonest_93 : decode cX10_commonest 93 = .ok (.bipush 64, 2) := by decide +kernel
theorem dX10_commonest_95 : decode cX10_commonest 95 = .ok (.idiv, 1) := by decide +kernel
theorem dX10_commonest_96 : decode cX10_commonest 96 = .ok (.imul, 1) := by decide +kernel
theorem dX10_commonest_97 : decode cX10_commonest 97 = .ok (.bipush 10, 2) := by decide +kernel
theorem dX10_commonest_99 : decode cX10_commonest 99 = .ok (.iload_n 2, 1) := by decide +kernel
theorem dX10_commonest_100 : decode cX10_commonest 100 = .ok (.bipush 64, 2) := by decide +kernel
theorem dX10_commonest_102 : decode cX10_commonest 102 = .ok (.irem, 1) := by decide +kernel
theorem dX10_commonest_103 : decode cX10_commonest 103 = .ok (.bipush 8, 2) := by decide +kernel
theorem dX10_commonest_105 : decode cX10_commonest 105 = .ok (.idiv, 1) := by decide +kernel
theorem dX10_commonest_106 : decode cX10_commonest 106 = .ok (.imul, 1) := by decide +kernel
theorem dX10_commonest_107 : decode cX10_commonest 107 = .ok (.iadd, 1) := by decide +kernel
theorem dX10_commonest_108 : decode cX10_commonest 108 = .ok (.iload_n 2, 1) := by decide +kernel
theorem dX10_commonest_109 : decode cX10_commonest 109 = .ok (.bipush 8, 2) := by decide +kernel
theorem dX10_commonest_111 : decode cX10_commonest 111 = .ok (.irem, 1) := by decide +kernel
theorem dX10_commonest_112 : decode cX10_commonest 112 = .ok (.iadd, 1) := by decide +kernel
theorem dX10_commonest_113 : decode cX10_commonest 113 = .ok (.ireturn, 1) := by decide +kernel
def wW_k_X10_commonest (ty : Nat → ClassId) (X : Nat → Nat) (z9_0 : Int32) (z9_1 : Int32) (z9_2 : Int32) (z9_3 : Int32) (z9_4 : Int32) (z9_5 : Int32) (z9_6 : Nat → Int64) (z9_7 : Nat → Int32) (z9_8 : Nat → Int32) (z9_9 : Int32) (z9_10 : Int32) (z9_11 : Int32) (z9_12 : Int32) (z9_13 : Int32) (z9_14 : Int32) (z9_15 : Int32) (z9_16 : Int32) (z9_17 : Int32) (z9_18 : Int32) (z9_19 : Int32) (z9_20 : Nat → Int32) : va_W := [((X 0), .inr (12, [.ref (X 1), .ref (X 8), .ref (X 20), .ref (X 39), .ref (X 41), .ref (X 43), .ref (X 45)])), ((X 8), .inr (5, [.ref (X 1), .ref (X 9), .ref (X 10), .ref (X 12), .ref (X 14), .int z9_0, .ref (X 15), .ref (X 16), .ref (X 17), .int z9_1, .ref (X 18), .ref (X 19), .int z9_2, .int z9_3, .int z9_4, .int z9_5])), ((X 10), .inr (3, [.ref (X 11)])), ((X 11), .inl (ty 1, 6, .inr (.inl z9_6))), ((X 18), .inl (ty 0, 384, .inl z9_7)), ((X 19), .inl (ty 0, 384, .inl z9_8)), ((X 20), .inr (11, [.ref (X 1), .ref (X 8), .ref (X 21), .ref (X 28), .ref (X 35), .int z9_9, .ref (X 36), .ref (X 37), .ref (X 38), .int z9_10, .int z9_11, .int z9_12, .int z9_13, .int z9_14, .int z9_15, .int z9_16, .int z9_17])), ((X 45), .inr (2, [.ref (X 46), .ref (X 47), .int z9_18, .int z9_19])), ((X 46), .inl (ty 0, 64, .inl z9_20))]
