theorem dX3_takeInstance_0 : decode cX3_takeInstance 0 = .ok (.aload_n 0, 1) := by decide +kernel
theorem dX3_takeInstance_1 : decode cX3_takeInstance 1 = .ok (.getfield 12, 3) := by decide +kernel
theorem dX3_takeInstance_4 : decode cX3_takeInstance 4 = .ok (.invokevirtual 185, 3) := by decide +kernel
theorem dX3_takeInstance_7 : decode cX3_takeInstance 7 = .ok (.istore_n 3, 1) := by decide +kernel
theorem dX3_takeInstance_8 : decode cX3_takeInstance 8 = .ok (.aload_n 0, 1) := by decide +kernel
theorem dX3_takeInstance_9 : decode cX3_takeInstance 9 = .ok (.aload_n 1, 1) := by decide +kernel
theorem dX3_takeInstance_10 : decode cX3_takeInstance 10 = .ok (.invokevirtual 188, 3) := by decide +kernel
theorem dX3_takeInstance_13 : decode cX3_takeInstance 13 = .ok (.ifCond .ne 4, 3) := by decide +kernel
theorem dX3_takeInstance_16 : decode cX3_takeInstance 16 = .ok (.return_, 1) := by decide +kernel
theorem dX3_takeInstance_17 : decode cX3_takeInstance 17 = .ok (.aload_n 0, 1) := by decide +kernel
theorem dX3_takeInstance_18 : decode cX3_takeInstance 18 = .ok (.getfield 61, 3) := by decide +kernel
theorem dX3_takeInstance_21 : decode cX3_takeInstance 21 = .ok (.iconst 2, 1) := by decide +kernel
theorem dX3_takeInstance_22 : decode cX3_takeInstance 22 = .ok (.if_icmp .ne 10, 3) := by decide +kernel
theorem dX3_takeInstance_25 : decode cX3_takeInstance 25 = .ok (.aload_n 0, 1) := by decide +kernel
theorem dX3_takeInstance_26 : decode cX3_takeInstance 26 = .ok (.iload_n 2, 1) := by decide +kernel
theorem dX3_takeInstance_27 : decode cX3_takeInstance 27 = .ok (.iload_n 3, 1) := by decide +kernel
theorem dX3_takeInstance_28 : decode cX3_takeInstance 28 = .ok (.invokevirtual 192, 3) := by decide +kernel
theorem dX3_takeInstance_31 : decode cX3_takeInstance 31 = .ok (.return_, 1) := by decide +kernel
theorem dX3_takeInstance_32 : decode cX3_takeInstance 32 = .ok (.aload_n 0, 1) := by decide +kernel
theorem dX3_takeInstance_33 : decode cX3_takeInstance 33 = .ok (.getfield 61, 3) := by decide +kernel
theorem dX3_takeInstance_36 : decode cX3_takeInstance 36 = .ok (.ifCond .ne 10, 3) := by decide +kernel
theorem dX3_takeInstance_39 : decode cX3_takeInstance 39 = .ok (.aload_n 0, 1) := by decide +kernel
theorem dX3_takeInstance_40 : decode cX3_takeInstance 40 = .ok (.getfield 21, 3) := by decide +kernel
theorem dX3_takeInstance_43 : decode cX3_takeInstance 43 = .ok (.goto 7, 3) := by decide +kernel
theorem dX3_takeInstance_46 : decode cX3_takeInstance 46 = .ok (.aload_n 0, 1) := by decide +kernel
theorem dX3_takeInstance_47 : decode cX3_takeInstance 47 = .ok (.getfield 25, 3) := by decide +kernel
theorem dX3_takeInstance_50 : decode cX3_takeInstance 50 = .ok (.astore 4, 2) := by decide +kernel
theorem dX3_takeInstance_52 : decode cX3_takeInstance 52 = .ok (.iconst 0, 1) := by decide +kernel
theorem dX3_takeInstance_53 : decode cX3_takeInstance 53 = .ok (.istore 5, 2) := by decide +kernel
theorem dX3_takeInstance_55 : decode cX3_takeInstance 55 = .ok (.iload 5, 2) := by decide +kernel
theorem dX3_takeInstance_57 : decode cX3_takeInstance 57 = .ok (.aload_n 0, 1) := by decide +kernel
theorem dX3_takeInstance_58 : decode cX3_takeInstance 58 = .ok (.getfield 196, 3) := by decide +kernel
theorem dX3_takeInstance_61 : decode cX3_takeInstance 61 = .ok (.if_icmp .ge 43, 3) := by decide +kernel
theorem dX3_takeInstance_64 : decode cX3_takeInstance 64 = .ok (.aload_n 0, 1) := by decide +kernel
theorem dX3_takeInstance_65 : decode cX3_takeInstance 65 = .ok (.iload 5, 2) := by decide +kernel
theorem dX3_takeInstance_67 : decode cX3_takeInstance 67 = .ok (.invokevirtual 199, 3) := by decide +kernel
theorem dX3_takeInstance_70 : decode cX3_takeInstance 70 = .ok (.istore 6, 2) := by decide +kernel
theorem dX3_takeInstance_72 : decode cX3_takeInstance 72 = .ok (.aload 4, 2) := by decide +kernel
theorem dX3_takeInstance_74 : decode cX3_takeInstance 74 = .ok (.iload 6, 2) := by decide +kernel
theorem dX3_takeInstance_76 : decode cX3_takeInstance 76 = .ok (.invokevirtual 87, 3) := by decide +kernel
theorem dX3_takeInstance_79 : decode cX3_takeInstance 79 = .ok (.ifCond .eq 19, 3) := by decide +kernel
theorem dX3_takeInstance_82 : decode cX3_takeInstance 82 = .ok (.aload_n 0, 1) := by decide +kernel
theorem dX3_takeInstance_83 : decode cX3_takeInstance 83 = .ok (.dup, 1) := by decide +kernel
theorem dX3_takeInstance_84 : decode cX3_takeInstance 84 = .ok (.getfield 101, 3) := by decide +kernel
theorem dX3_takeInstance_87 : decode cX3_takeInstance 87 = .ok (.iconst 1, 1) := by decide +kernel
theorem dX3_takeInstance_88 : decode cX3_takeInstance 88 = .ok (.iload 6, 2) := by decide +kernel
theorem dX3_takeInstance_90 : decode cX3_takeInstance 90 = .ok (.bipush 64, 2) := by decide +kernel
theorem dX3_takeInstance_92 : decode cX3_takeInstance 92 = .ok (.idiv, 1) := by decide +kernel
theorem dX3_takeInstance_93 : decode cX3_takeInstance 93 = .ok (.ishl, 1) := by decide +kernel
theorem dX3_takeInstance_94 : decode cX3_takeInstance 94 = .ok (.ior, 1) := by decide +kernel
theorem dX3_takeInstance_95 : decode cX3_takeInstance 95 = .ok (.putfield 101, 3) := by decide +kernel
theorem dX3_takeInstance_98 : decode cX3_takeInstance 98 = .ok (.iinc 5 1, 3) := by decide +kernel
theorem dX3_takeInstance_101 : decode cX3_takeInstance 101 = .ok (.goto (-46), 3) := by decide +kernel
theorem dX3_takeInstance_104 : decode cX3_takeInstance 104 = .ok (.return_, 1) := by decide +kernel
def wW_k_X3_takeInstance (ty : Nat → ClassId) (X : Nat → Nat) (z9_0 : Int32) (z9_1 : Int32) (z9_2 : Int32) (z9_3 : Int32) (z9_4 : Int32) (z9_5 : Int32) (z9_6 : Int32) (z9_7 : Int32) (z9_8 : Int32) (z9_9 : Int32) (z9_10 : Nat → Int64) (z9_11 : Nat → Int64) (z9_12 : Nat → Int32) (z9_13 : Nat → Int32) (z9_14 : Nat → Int32) (z9_15 : Nat → Int32) : va_W := [((X 8), .inr (5, [.ref (X 1), .ref (X 9), .ref (X 10), .ref (X 12), .ref (X 14), .int z9_0, .ref (X 15), .ref (X 16), .ref (X 17), .int z9_1, .ref (X 18), .ref (X 19), .int z9_2, .int z9_3, .int z9_4, .int z9_5])), ((X 9), .inr (4, [.int z9_6, .int z9_7, .int z9_8, .int z9_9])), ((X 10), .inr (3, [.ref (X 11)])), ((X 11), .inl (ty 1, 6, .inr (.inl z9_10))), ((X 12), .inr (3, [.ref (X 13)])), ((X 13), .inl (ty 1, 6, .inr (.inl z9_11))), ((X 14), .inl (ty 0, 16, .inl z9_12)), ((X 15), .inl (ty 0, 300, .inl z9_13)), ((X 16), .inl (ty 0, 300, .inl z9_14)), ((X 17), .inl (ty 0, 20, .inl z9_15))]
abbrev r_k_X3_takeInstance : Type := (Nat → Int64) × (Nat → Int64) × (Nat → Int32) × (Nat → Int32) × (Nat → Int32) × (Nat → Int32) × Int32 × Int32 × Int32 × Int32
def m_k_X3_takeInstance_98 (rec_55 : Int32 → (Nat → Int64) → (Nat → Int64) → Int32 → r_k_X3_takeInstance) (t_76 : r_k_X1_add) (v5_55 : Int32) (x11_f_55 : Nat → Int64) (x8_15_98 : Int32) : r_k_X3_takeInstance :=
  rec_55 (v5_55 + 1) x11_f_55 t_76.2 x8_15_98
def m_k_X3_takeInstance_98a (rec_55a : Int32 → (Nat → Int64) → (Nat → Int64) → Int32 → r_k_X3_takeInstance) (t_76 : r_k_X1_add) (v5_55a : Int32) (x13_f_55a : Nat → Int64) (x8_15_98a : Int32) : r_k_X3_takeInstance :=
  rec_55a (v5_55a + 1) t_76.2 x13_f_55a x8_15_98a
def m_k_X3_takeInstance_55s (kn : Int32) (kr : Nat → Int32) (kv : Nat → Int32) (kb : Nat → Int32) (t_10 : r_k_X3_listHeads) (rec_55 : Int32 → (Nat → Int64) → (Nat → Int64) → Int32 → r_k_X3_takeInstance) (v5_55 : Int32) (x11_f_55 : Nat → Int64) (x13_f_55 : Nat → Int64) (x8_15_55 : Int32) : r_k_X3_takeInstance :=
  if t_10.2.2.1 ≤ v5_55 then
    (x11_f_55, x13_f_55, t_10.2.1, kr, kv, kb, x8_15_55, t_10.2.2.1, kn, t_10.2.2.2)
  else
    lE (m_k_X3_headAtomAt t_10.2.1 v5_55) (fun t_67 =>
      lE (m_k_X1_add x13_f_55 t_67) (fun t_76 =>
        if t_76.1 = 0 then
          m_k_X3_takeInstance_98 rec_55 t_76 v5_55 x11_f_55 x8_15_55
        else
          m_k_X3_takeInstance_98 rec_55 t_76 v5_55 x11_f_55 (x8_15_55 ||| ((1 : Int32) <<< ((t_67 / 64) &&& 31)))))
def m_k_X3_takeInstance_55 (kn : Int32) (kr : Nat → Int32) (kv : Nat → Int32) (kb : Nat → Int32) (t_10 : r_k_X3_listHeads) : Nat → Int32 → (Nat → Int64) → (Nat → Int64) → Int32 → r_k_X3_takeInstance
  | 0, _, _, _, _ => ((fun _ => 0), (fun _ => 0), (fun _ => 0), (fun _ => 0), (fun _ => 0), (fun _ => 0), 0, 0, 0, 0)
  | n + 1, v5_55, x11_f_55, x13_f_55, x8_15_55 => m_k_X3_takeInstance_55s kn kr kv kb t_10 (fun v5_55 x11_f_55 x13_f_55 x8_15_55 => m_k_X3_takeInstance_55 kn kr kv kb t_10 n v5_55 x11_f_55 x13_f_55 x8_15_55) v5_55 x11_f_55 x13_f_55 x8_15_55
theorem m_k_X3_takeInstance_55_succ (kn : Int32) (kr : Nat → Int32) (kv : Nat → Int32) (kb : Nat → Int32) (t_10 : r_k_X3_listHeads) (n : Nat) (v5_55 : Int32) (x11_f_55 : Nat → Int64) (x13_f_55 : Nat → Int64) (x8_15_55 : Int32) : m_k_X3_takeInstance_55 kn kr kv kb t_10 (n + 1) v5_55 x11_f_55 x13_f_55 x8_15_55 = m_k_X3_takeInstance_55s kn kr kv kb t_10 (m_k_X3_takeInstance_55 kn kr kv kb t_10 n) v5_55 x11_f_55 x13_f_55 x8_15_55 := rfl
def m_k_X3_takeInstance_55as (kn : Int32) (kr : Nat → Int32) (kv : Nat → Int32) (kb : Nat → Int32) (t_10 : r_k_X3_listHeads) (rec_55a : Int32 → (Nat → Int64) → (Nat → Int64) → Int32 → r_k_X3_takeInstance) (v5_55a : Int32) (x11_f_55a : Nat → Int64) (x13_f_55a : Nat → Int64) (x8_15_55a : Int32) : r_k_X3_takeInstance :=
  if t_10.2.2.1 ≤ v5_55a then
    (x11_f_55a, x13_f_55a, t_10.2.1, kr, kv, kb, x8_15_55a, t_10.2.2.1, kn, t_10.2.2.2)
  else
    lE (m_k_X3_headAtomAt t_10.2.1 v5_55a) (fun t_67 =>
      lE (m_k_X1_add x11_f_55a t_67) (fun t_76 =>
        if t_76.1 = 0 then
          m_k_X3_takeInstance_98a rec_55a t_76 v5_55a x13_f_55a x8_15_55a
        else
          m_k_X3_takeInstance_98a rec_55a t_76 v5_55a x13_f_55a (x8_15_55a ||| ((1 : Int32) <<< ((t_67 / 64) &&& 31)))))
def m_k_X3_takeInstance_55a (kn : Int32) (kr : Nat → Int32) (kv : Nat → Int32) (kb : Nat → Int32) (t_10 : r_k_X3_listHeads) : Nat → Int32 → (Nat → Int64) → (Nat → Int64) → Int32 → r_k_X3_takeInstance
  | 0, _, _, _, _ => ((fun _ => 0), (fun _ => 0), (fun _ => 0), (fun _ => 0), (fun _ => 0), (fun _ => 0), 0, 0, 0, 0)
  | n + 1, v5_55a, x11_f_55a, x13_f_55a, x8_15_55a => m_k_X3_takeInstance_55as kn kr kv kb t_10 (fun v5_55a x11_f_55a x13_f_55a x8_15_55a => m_k_X3_takeInstance_55a kn kr kv kb t_10 n v5_55a x11_f_55a x13_f_55a x8_15_55a) v5_55a x11_f_55a x13_f_55a x8_15_55a
theorem m_k_X3_takeInstance_55a_succ (kn : Int32) (kr : Nat → Int32) (kv : Nat → Int32) (kb : Nat → Int32) (t_10 : r_k_X3_listHeads) (n : Nat) (v5_55a : Int32) (x11_f_55a : Nat → Int64) (x13_f_55a : Nat → Int64) (x8_15_55a : Int32) : m_k_X3_takeInstance_55a kn kr kv kb t_10 (n + 1) v5_55a x11_f_55a x13_f_55a x8_15_55a = m_k_X3_takeInstance_55as kn kr kv kb t_10 (m_k_X3_takeInstance_55a kn kr kv kb t_10 n) v5_55a x11_f_55a x13_f_55a x8_15_55a := rfl
def m_k_X3_takeInstance_50 (kn : Int32) (gw : Int32) (su : Nat → Int64) (po : Nat → Int64) (kr : Nat → Int32) (kv : Nat → Int32) (kb : Nat → Int32) (t_10 : r_k_X3_listHeads) : r_k_X3_takeInstance :=
  m_k_X3_takeInstance_55 kn kr kv kb t_10 wF 0 su po gw
def m_k_X3_takeInstance_50a (kn : Int32) (gw : Int32) (su : Nat → Int64) (po : Nat → Int64) (kr : Nat → Int32) (kv : Nat → Int32) (kb : Nat → Int32) (t_10 : r_k_X3_listHeads) : r_k_X3_takeInstance :=
  m_k_X3_takeInstance_55a kn kr kv kb t_10 wF 0 su po gw
def m_k_X3_takeInstance (pp : pT) (kn : Int32) (pu : Int32) (gw : Int32) (b_1 : Int32) (b_2 : Int32) (b_3 : Int32) (b_p : Int32) (su : Nat → Int64) (po : Nat → Int64) (hds : Nat → Int32) (kr : Nat → Int32) (kv : Nat → Int32) (kb : Nat → Int32) (a0 : Nat) (a1 : Int32) : r_k_X3_takeInstance :=
  lE (m_k_X2_packed b_1 b_2 b_3 b_p) (fun t_4 =>
    lE (m_k_X3_listHeads pp b_1 b_2 b_3 b_p su hds a0) (fun t_10 =>
      if t_10.1 = 0 then
        (su, po, t_10.2.1, kr, kv, kb, gw, t_10.2.2.1, kn, t_10.2.2.2)
      else
        if pu = 2 then
          lE (m_k_X3_keep kn kr kv kb a1 t_4) (fun t_28 =>
            (su, po, t_10.2.1, t_28.1, t_28.2.1, t_28.2.2.1, gw, t_10.2.2.1, t_28.2.2.2, t_10.2.2.2))
        else
          if pu = 0 then
            m_k_X3_takeInstance_50a kn gw su po kr kv kb t_10
          else
            m_k_X3_takeInstance_50 kn gw su po kr kv kb t_10))
def vs_k_X3_takeInstance : List Cond := .code yX3_takeInstance cX3_takeInstance 7 none :: ([.fieldLink RX3 12 "AnswerFold$Grounding" "binding" "LAnswerFold$Binding;", .methodLink RX3 185 yX2_packed, .instanceMethod yX2_packed, .selects RX2 yX2_packed yX2_packed, .initialized RX2, .methodLink RX3 188 yX3_listHeads, .instanceMethod yX3_listHeads, .selects RX3 yX3_listHeads yX3_listHeads, .initialized RX3, .fieldLink RX3 61 "AnswerFold$Grounding" "purpose" "I", .fieldLink RX3 196 "AnswerFold$Grounding" "headCount" "I", .methodLink RX3 199 yX3_headAtomAt, .instanceMethod yX3_headAtomAt, .selects RX3 yX3_headAtomAt yX3_headAtomAt, .methodLink RX3 87 yX1_add, .instanceMethod yX1_add, .selects RX1 yX1_add yX1_add, .initialized RX1, .fieldLink RX3 101 "AnswerFold$Grounding" "grown" "I", .fieldLink RX3 25 "AnswerFold$Grounding" "possible" "LAnswerFold$AtomSet;", .fieldLink RX3 21 "AnswerFold$Grounding" "sure" "LAnswerFold$AtomSet;", .methodLink RX3 192 yX3_keep, .instanceMethod yX3_keep, .selects RX3 yX3_keep yX3_keep] ++ (u_ws RX3 TX3 16 ++ (vs_k_X2_packed ++ (vs_k_X3_listHeads ++ (vs_k_X3_headAtomAt ++ (vs_k_X1_add ++ (vs_k_X3_keep)))))))
theorem iv_k_X3_takeInstance_X3 : ∀ w ∈ u_ws RX3 TX3 16, w ∈ vs_k_X3_takeInstance := (fun _ h => List.mem_cons_of_mem _ (List.mem_append_right _ (List.mem_append_left _ h)))
set_option maxRecDepth 20000 in
theorem gv_k_X3_takeInstance_0 : GoodIn vs_k_X3_takeInstance (wsV RX3 185 RX2 yX2_packed vs_k_X2_packed) := goodIn_app (goodIn_sub (by decide +kernel) (by decide +kernel)) (goodIn_sub (fun _ h => List.mem_cons_of_mem _ (List.mem_append_right _ (List.mem_append_right _ (List.mem_append_left _ h)))) (by decide +kernel))
set_option maxRecDepth 20000 in
theorem gv_k_X3_takeInstance_1 : GoodIn vs_k_X3_takeInstance (wsV RX3 188 RX3 yX3_listHeads vs_k_X3_listHeads) := goodIn_app (goodIn_sub (by decide +kernel) (by decide +kernel)) (goodIn_sub (fun _ h => List.mem_cons_of_mem _ (List.mem_append_right _ (List.mem_append_right _ (List.mem_append_right _ (List.mem_append_left _ h))))) (by decide +kernel))
set_option maxRecDepth 20000 in
theorem gv_k_X3_takeInstance_2 : GoodIn vs_k_X3_takeInstance (wsV RX3 199 RX3 yX3_headAtomAt vs_k_X3_headAtomAt) := goodIn_app (goodIn_sub (by decide +kernel) (by decide +kernel)) (goodIn_sub (fun _ h => List.mem_cons_of_mem _ (List.mem_append_right _ (List.mem_append_right _ (List.mem_append_right _ (List.mem_append_right _ (List.mem_append_left _ h)))))) (by decide +kernel))
set_option maxRecDepth 20000 in
theorem gv_k_X3_takeInstance_3 : GoodIn vs_k_X3_takeInstance (wsV RX3 87 RX1 yX1_add vs_k_X1_add) := goodIn_app (goodIn_sub (by decide +kernel) (by decide +kernel)) (goodIn_sub (fun _ h => List.mem_cons_of_mem _ (List.mem_append_right _ (List.mem_append_right _ (List.mem_append_right _ (List.mem_append_right _ (List.mem_append_right _ (List.mem_append_left _ h))))))) (by decide +kernel))
set_option maxRecDepth 20000 in
theorem gv_k_X3_takeInstance_4 : GoodIn vs_k_X3_takeInstance (wsV RX3 199 RX3 yX3_headAtomAt vs_k_X3_headAtomAt) := goodIn_app (goodIn_sub (by decide +kernel) (by decide +kernel)) (goodIn_sub (fun _ h => List.mem_cons_of_mem _ (List.mem_append_right _ (List.mem_append_right _ (List.mem_append_right _ (List.mem_append_right _ (List.mem_append_left _ h)))))) (by decide +kernel))
set_option maxRecDepth 20000 in
theorem gv_k_X3_takeInstance_5 : GoodIn vs_k_X3_takeInstance (wsV RX3 87 RX1 yX1_add vs_k_X1_add) := goodIn_app (goodIn_sub (by decide +kernel) (by decide +kernel)) (goodIn_sub (fun _ h => List.mem_cons_of_mem _ (List.mem_append_right _ (List.mem_append_right _ (List.mem_append_right _ (List.mem_append_right _ (List.mem_append_right _ (List.mem_append_left _ h))))))) (by decide +kernel))
set_option maxRecDepth 20000 in
theorem gv_k_X3_takeInstance_6 : GoodIn vs_k_X3_takeInstance (wsV RX3 192 RX3 yX3_keep vs_k_X3_keep) := goodIn_app (goodIn_sub (by decide +kernel) (by decide +kernel)) (goodIn_sub (fun _ h => List.mem_cons_of_mem _ (List.mem_append_right _ (List.mem_append_right _ (List.mem_append_right _ (List.mem_append_right _ (List.mem_append_right _ (List.mem_append_right _ (h)))))))) (by decide +kernel))
set_option maxHeartbeats 4000000 in
set_option maxRecDepth 100000 in
theorem k_X3_takeInstance (l : Launch) (D : va_G) (ty : Nat → ClassId) (td mi sz : Nat) (pp : pT) (X : Nat → Nat) (hn : Int32) (kn : Int32) (on : Int32) (cu : Int32) (pu : Int32) (gw : Int32) (b_1 : Int32) (b_2 : Int32) (b_3 : Int32) (b_p : Int32) (su : Nat → Int64) (po : Nat → Int64) (hds : Nat → Int32) (kr : Nat → Int32) (kv : Nat → Int32) (kb : Nat → Int32) (a0 : Nat) (a1 : Int32) (hok : pOK pp) (hm_a0 : a0 ∈ pRA pp) (TT : r_k_X3_takeInstance) (hTT : TT = m_k_X3_takeInstance pp kn pu gw b_1 b_2 b_3 b_p su po hds kr kv kb a0 a1) : Met l yX3_takeInstance vs_k_X3_takeInstance { frames := 3, cells := 0, slots := 0, locals := 71 } (va_Pc [.ref (X 8), .ref a0, .int a1] (wq_P D ty td mi ((wW_k_X3_takeInstance ty X hn kn on cu pu gw b_1 b_2 b_3 b_p su po hds kr kv kb) ++ pw ty pp) sz)) (va_Qv (fun u : va_W => ((u = ((wW_k_X3_takeInstance ty X TT.2.2.2.2.2.2.2.1 TT.2.2.2.2.2.2.2.2.1 on cu pu TT.2.2.2.2.2.2.1 b_1 b_2 TT.2.2.2.2.2.2.2.2.2 b_p TT.1 TT.2.1 TT.2.2.1 TT.2.2.2.1 TT.2.2.2.2.1 TT.2.2.2.2.2.1) ++ pw ty pp)))) (wq_B D (va_A ((wW_k_X3_takeInstance ty X hn kn on cu pu gw b_1 b_2 b_3 b_p su po hds kr kv kb) ++ pw ty pp) sz)) (va_A ((wW_k_X3_takeInstance ty X hn kn on cu pu gw b_1 b_2 b_3 b_p su po hds kr kv kb) ++ pw ty pp) sz)) 0 0 (va_A ((wW_k_X3_takeInstance ty X hn kn on cu pu gw b_1 b_2 b_3 b_p su po hds kr kv kb) ++ pw ty pp) sz) := by
  refine Met.ofW (cc := cX3_takeInstance) (maxL := 7) (ret := none) (by decide) rfl ?_
  intro p e s m args below meth c s₁ B hml hv
  obtain ⟨rfl, hsz, hP, hK, hD0, hE⟩ := hv
  have hx := B.exec
  have hb := B.bytes
  have hr := B.returns
  have hts := atoms_spec (ws := vs_k_X3_takeInstance) B.pre
  have hown : s.vm.findClass RX3 = some m.cls := findClass_of_methodNamed B.named
  have hlocks := B.notSynchronized
  subst hsz
  have hD := hD0.self (sz := s.heap.size)
  generalize hAe : va_A ((wW_k_X3_takeInstance ty X hn kn on cu pu gw b_1 b_2 b_3 b_p su po hds kr kv kb) ++ pw ty pp) s.heap.size = A at hD hE ⊢
  have hA : ∀ q : Nat, s.heap.size ≤ q → A q := fun q h => by rw [← hAe]; exact Or.inr h
  have hS : va_S A s.heap s.heap [] := va_S.rf
  have hP : va_P D vwCl ((wW_k_X3_takeInstance ty X hn kn on cu pu gw b_1 b_2 b_3 b_p su po hds kr kv kb) ++ pw ty pp) s.heap := hP
  have hl := lv_entry ([.ref (X 8), .ref a0, .int a1]) (n := 7) (Nat.le_of_ble_eq_true rfl)
  rw [lg_entry_eq]
  generalize (lg_sl ([.ref (X 8), .ref a0, .int a1]) ++ List.replicate (7 - (lg_sl ([.ref (X 8), .ref a0, .int a1])).length) Slot.unset).toArray = ls at hl ⊢
  have hl : lv_has ls 7 [(0, .ref (X 8)), (1, .ref a0), (2, .int a1)] := hl
  have END : ∀ (e0 : Nat → Int64) (e1 : Nat → Int64) (e2 : Nat → Int32) (e3 : Nat → Int32) (e4 : Nat → Int32) (e5 : Nat → Int32) (e6 : Int32) (e7 : Int32) (e8 : Int32) (e9 : Int32), TT = (e0, e1, e2, e3, e4, e5, e6, e7, e8, e9) → ∀ (H : Heap) (locs : List Loc), va_P D vwCl ((wW_k_X3_takeInstance ty X e7 e8 on cu pu e6 b_1 b_2 e9 b_p e0 e1 e2 e3 e4 e5) ++ pw ty pp) H → va_D A ((wW_k_X3_takeInstance ty X e7 e8 on cu pu e6 b_1 b_2 e9 b_p e0 e1 e2 e3 e4 e5) ++ pw ty pp) → va_S A s.heap H locs → ∀ (ls : Array Slot) (pc : Nat), decode cX3_takeInstance pc = .ok (.return_, 1) → W p l e (headSpec vs_k_X3_takeInstance { frames := 3, cells := 0, slots := 0, locals := 71 }).room s m ([.ref (X 8), .ref a0, .int a1] : List Value).toArray below meth c H locs 0 0 (MQ below (va_Qv (fun u : va_W => ((u = ((wW_k_X3_takeInstance ty X TT.2.2.2.2.2.2.2.1 TT.2.2.2.2.2.2.2.2.1 on cu pu TT.2.2.2.2.2.2.1 b_1 b_2 TT.2.2.2.2.2.2.2.2.2 b_p TT.1 TT.2.1 TT.2.2.1 TT.2.2.2.1 TT.2.2.2.2.1 TT.2.2.2.2.2.1) ++ pw ty pp)))) (wq_B D A) A) ([.ref (X 8), .ref a0, .int a1] : List Value).toArray s 0 0 A) (F0 m pc ls []) := by
    intro e0 e1 e2 e3 e4 e5 e6 e7 e8 e9 hT H locs hP hD hS ls pc hd
    have hM : TT = (e0, e1, e2, e3, e4, e5, e6, e7, e8, e9) := hT
    exact W.vret hx hb hr (fun t ht hW => ⟨⟨((wW_k_X3_takeInstance ty X e7 e8 on cu pu e6 b_1 b_2 e9 b_p e0 e1 e2 e3 e4 e5) ++ pw ty pp), rfl, (by rw [hM]), wq_B.of ht hP hD⟩, hS.F ht⟩) hS.2.2 hd
  have hT := hTT
  rw [m_k_X3_takeInstance] at hT
  refine lv_aload_n hx hb dX3_takeInstance_0 rfl (lv_at hl 0 rfl) ?_
  refine va_get (D := D) (ci := 5) (v := .ref (X 9)) (C := RX3) (T := TX3) (N := 16) hx hb hts iv_k_X3_takeInstance_X3 hown hK hP 0 rfl rfl 1 (by decide) (hts (.fieldLink RX3 12 "AnswerFold$Grounding" "binding" "LAnswerFold$Binding;") (by decide +kernel)) (fun _ h9 => h9) rfl dX3_takeInstance_1 ?_
  obtain ⟨t_4, ht_4⟩ : ∃ t, t = m_k_X2_packed b_1 b_2 b_3 b_p := ⟨_, rfl⟩
  rw [lE_eq ht_4] at hT
  refine wq_iQW (wc := (wW_k_X2_packed ty X b_1 b_2 b_3 b_p)) (pl := pw ty pp) (va_runV (As := []) (rest := []) ⟨hx, hb, hml, hown, hts⟩ (k_X2_packed l D ty td mi s.heap.size X b_1 b_2 b_3 b_p t_4 ht_4) (cwV 0 hts gv_k_X3_takeInstance_0 rfl rfl rfl (by decide +kernel) ⟨(Nat.le_of_ble_eq_true rfl), (Nat.le_of_ble_eq_true rfl)⟩) (wm_V (wm_preS (vP_left hP) (vD_left hD) hK hE hS hA [false, true] rfl) (va_recv (q0 := 1) (ci := 4) hK hP rfl rfl)) rfl rfl hl.1 rfl (lv_room (Nat.le_of_ble_eq_true rfl)) dX3_takeInstance_4 ⟨(Nat.le_of_ble_eq_true rfl), (Nat.le_of_ble_eq_true rfl)⟩) hS hA hP hD [false, true] rfl (fun _ _ h => by rcases h with ⟨-, rfl⟩; rfl) (fun r u H locs hw hP hD hS => ?_)
  obtain ⟨hr0, rfl⟩ := hw
  subst r
  have hP : va_P D vwCl ((wW_k_X3_takeInstance ty X hn kn on cu pu gw b_1 b_2 b_3 b_p su po hds kr kv kb) ++ pw ty pp) H := hP
  have hD : va_D A ((wW_k_X3_takeInstance ty X hn kn on cu pu gw b_1 b_2 b_3 b_p su po hds kr kv kb) ++ pw ty pp) := hD
  refine W.widen (k := 0) (n := 0) (Nat.le_of_ble_eq_true rfl) (Nat.le_of_ble_eq_true rfl) ?_
  refine lv_istore_n (lv' := [(3, .int t_4), (0, .ref (X 8)), (1, .ref a0), (2, .int a1)]) hx hb dX3_takeInstance_7 rfl hl (by decide) rfl (fun ls hl => ?_)
  refine lv_aload_n hx hb dX3_takeInstance_8 rfl (lv_at hl 1 rfl) ?_
  refine lv_aload_n hx hb dX3_takeInstance_9 rfl (lv_at hl 2 rfl) ?_
  obtain ⟨t_10, ht_10⟩ : ∃ t, t = m_k_X3_listHeads pp b_1 b_2 b_3 b_p su hds a0 := ⟨_, rfl⟩
  rw [lE_eq ht_10] at hT
  refine wq_iPW (wc := (wW_k_X3_listHeads ty X hn kn on cu pu gw b_1 b_2 b_3 b_p su hds)) (pl := pw ty pp) (ux := (wW_k_X3_listHeads ty X t_10.2.2.1 kn on cu pu gw b_1 b_2 t_10.2.2.2 b_p su t_10.2.1)) (va_runV (As := [.ref a0]) (rest := []) ⟨hx, hb, hml, hown, hts⟩ (k_X3_listHeads l D ty td mi H.size pp X hn kn on cu pu gw b_1 b_2 b_3 b_p su hds a0 hok hm_a0 t_10 ht_10) (cwV 1 hts gv_k_X3_takeInstance_1 rfl rfl rfl (by decide +kernel) ⟨(Nat.le_of_ble_eq_true rfl), (Nat.le_of_ble_eq_true rfl)⟩) (wm_V (wm_preSP hP hD hK hE hS hA [true, true, true, true, false, false, true] rfl) (va_recv (q0 := 0) (ci := 5) hK hP rfl rfl)) rfl rfl hl.1 rfl (lv_room (Nat.le_of_ble_eq_true rfl)) dX3_takeInstance_10 ⟨(Nat.le_of_ble_eq_true rfl), (Nat.le_of_ble_eq_true rfl)⟩) hS hA hP hD [true, true, true, true, false, false, true] rfl rfl (fun _ _ h => h.2.2) (fun r H locs hw hP hD hS => ?_)
  obtain ⟨rfl, c_5, -⟩ := hw
  have hP : va_P D vwCl ((wW_k_X3_takeInstance ty X t_10.2.2.1 kn on cu pu gw b_1 b_2 t_10.2.2.2 b_p su po t_10.2.1 kr kv kb) ++ pw ty pp) H := hP
  have hD : va_D A ((wW_k_X3_takeInstance ty X t_10.2.2.1 kn on cu pu gw b_1 b_2 t_10.2.2.2 b_p su po t_10.2.1 kr kv kb) ++ pw ty pp) := hD
  refine W.widen (k := 0) (n := 0) (Nat.le_of_ble_eq_true rfl) (Nat.le_of_ble_eq_true rfl) ?_
  refine lv_if_ne (tgt := 17) hx hb dX3_takeInstance_13 (by decide) (fun c_6 => ?_) (fun c_6 => ?_)
  · rw [if_neg c_6] at hT
    refine lv_aload_n hx hb dX3_takeInstance_17 rfl (lv_at hl 1 rfl) ?_
    refine va_get (D := D) (ci := 5) (v := .int pu) (C := RX3) (T := TX3) (N := 16) hx hb hts iv_k_X3_takeInstance_X3 hown hK hP 0 rfl rfl 14 (by decide) (hts (.fieldLink RX3 61 "AnswerFold$Grounding" "purpose" "I") (by decide +kernel)) (fun _ h9 => h9) rfl dX3_takeInstance_18 ?_
    refine lv_iconst (v := 2) hx hb dX3_takeInstance_21 (by decide) ?_
    refine lv_icmp_ne (tgt := 32) hx hb dX3_takeInstance_22 (by decide) (fun c_7 => ?_) (fun c_7 => ?_)
    · rw [if_neg c_7] at hT
      refine lv_aload_n hx hb dX3_takeInstance_32 rfl (lv_at hl 1 rfl) ?_
      refine va_get (D := D) (ci := 5) (v := .int pu) (C := RX3) (T := TX3) (N := 16) hx hb hts iv_k_X3_takeInstance_X3 hown hK hP 0 rfl rfl 14 (by decide) (hts (.fieldLink RX3 61 "AnswerFold$Grounding" "purpose" "I") (by decide +kernel)) (fun _ h9 => h9) rfl dX3_takeInstance_33 ?_
      have J_50 : ∀ (_ : Unit), TT = m_k_X3_takeInstance_50 kn gw su po kr kv kb t_10 → ∀ (H : Heap) (locs : List Loc), va_P D vwCl ((wW_k_X3_takeInstance ty X t_10.2.2.1 kn on cu pu gw b_1 b_2 t_10.2.2.2 b_p su po t_10.2.1 kr kv kb) ++ pw ty pp) H → va_D A ((wW_k_X3_takeInstance ty X t_10.2.2.1 kn on cu pu gw b_1 b_2 t_10.2.2.2 b_p su po t_10.2.1 kr kv kb) ++ pw ty pp) → va_S A s.heap H locs → ∀ ls : Array Slot, lv_has ls 7 [(0, .ref (X 8))] → W p l e (headSpec vs_k_X3_takeInstance { frames := 3, cells := 0, slots := 0, locals := 71 }).room s m ([.ref (X 8), .ref a0, .int a1] : List Value).toArray below meth c H locs 0 0 (MQ below (va_Qv (fun u : va_W => ((u = ((wW_k_X3_takeInstance ty X TT.2.2.2.2.2.2.2.1 TT.2.2.2.2.2.2.2.2.1 on cu pu TT.2.2.2.2.2.2.1 b_1 b_2 TT.2.2.2.2.2.2.2.2.2 b_p TT.1 TT.2.1 TT.2.2.1 TT.2.2.2.1 TT.2.2.2.2.1 TT.2.2.2.2.2.1) ++ pw ty pp)))) (wq_B D A) A) ([.ref (X 8), .ref a0, .int a1] : List Value).toArray s 0 0 A) (F0 m 50 ls [.ref (X 12)]) := by
        intro _ hT  H locs hP hD hS ls hl
        rw [m_k_X3_takeInstance_50] at hT
        refine lv_astore (lv' := [(4, .ref (X 12)), (0, .ref (X 8))]) hx hb dX3_takeInstance_50 hl (by decide) rfl (fun ls hl => ?_)
        refine lv_iconst (v := 0) hx hb dX3_takeInstance_52 (by decide) ?_
        refine lv_istore (lv' := [(5, .int 0), (4, .ref (X 12)), (0, .ref (X 8))]) hx hb dX3_takeInstance_53 hl (by decide) rfl (fun ls hl => ?_)
        have L_55 : ∀ (n_55 : Nat) (v5_55 : Int32) (x11_f_55 : Nat → Int64) (x13_f_55 : Nat → Int64) (x8_15_55 : Int32), (2147483648 - v5_55.toInt).toNat < n_55 → TT = m_k_X3_takeInstance_55 kn kr kv kb t_10 n_55 v5_55 x11_f_55 x13_f_55 x8_15_55 → 0 ≤ v5_55.toInt → ∀ (H : Heap) (locs : List Loc), va_P D vwCl ((wW_k_X3_takeInstance ty X t_10.2.2.1 kn on cu pu x8_15_55 b_1 b_2 t_10.2.2.2 b_p x11_f_55 x13_f_55 t_10.2.1 kr kv kb) ++ pw ty pp) H → va_D A ((wW_k_X3_takeInstance ty X t_10.2.2.1 kn on cu pu x8_15_55 b_1 b_2 t_10.2.2.2 b_p x11_f_55 x13_f_55 t_10.2.1 kr kv kb) ++ pw ty pp) → va_S A s.heap H locs → ∀ ls : Array Slot, lv_has ls 7 [(0, .ref (X 8)), (4, .ref (X 12)), (5, .int v5_55)] → W p l e (headSpec vs_k_X3_takeInstance { frames := 3, cells := 0, slots := 0, locals := 71 }).room s m ([.ref (X 8), .ref a0, .int a1] : List Value).toArray below meth c H locs 0 0 (MQ below (va_Qv (fun u : va_W => ((u = ((wW_k_X3_takeInstance ty X TT.2.2.2.2.2.2.2.1 TT.2.2.2.2.2.2.2.2.1 on cu pu TT.2.2.2.2.2.2.1 b_1 b_2 TT.2.2.2.2.2.2.2.2.2 b_p TT.1 TT.2.1 TT.2.2.1 TT.2.2.2.1 TT.2.2.2.2.1 TT.2.2.2.2.2.1) ++ pw ty pp)))) (wq_B D A) A) ([.ref (X 8), .ref a0, .int a1] : List Value).toArray s 0 0 A) (F0 m 55 ls []) := by
          intro n_55
          induction n_55 with
          | zero => intro v5_55 x11_f_55 x13_f_55 x8_15_55 hu; exact absurd hu (Nat.not_lt_zero _)
          | succ n_55 ih_55 =>
            intro v5_55 x11_f_55 x13_f_55 x8_15_55 hu_55 hT hn_55 H locs hP hD hS ls hl
            rw [m_k_X3_takeInstance_55_succ, m_k_X3_takeInstance_55s] at hT
            refine lv_iload hx hb dX3_takeInstance_55 (lv_at hl 2 rfl) ?_
            refine lv_aload_n hx hb dX3_takeInstance_57 rfl (lv_at hl 0 rfl) ?_
            refine va_get (D := D) (ci := 5) (v := .int t_10.2.2.1) (C := RX3) (T := TX3) (N := 16) hx hb hts iv_k_X3_takeInstance_X3 hown hK hP 0 rfl rfl 5 (by decide) (hts (.fieldLink RX3 196 "AnswerFold$Grounding" "headCount" "I") (by decide +kernel)) (fun _ h9 => h9) rfl dX3_takeInstance_58 ?_
            refine lv_icmp_ge (tgt := 104) hx hb dX3_takeInstance_61 (by decide) (fun c_8 => ?_) (fun c_8 => ?_)
            · rw [if_pos c_8] at hT
              exact END x11_f_55 x13_f_55 t_10.2.1 kr kv kb x8_15_55 t_10.2.2.1 kn t_10.2.2.2 hT _ _ hP hD hS _ _ dX3_takeInstance_104
            · rw [if_neg c_8] at hT
              refine lv_aload_n hx hb dX3_takeInstance_64 rfl (lv_at hl 0 rfl) ?_
              refine lv_iload hx hb dX3_takeInstance_65 (lv_at hl 2 rfl) ?_
              obtain ⟨t_67, ht_67⟩ : ∃ t, t = m_k_X3_headAtomAt t_10.2.1 v5_55 := ⟨_, rfl⟩
              rw [lE_eq ht_67] at hT
              refine wq_iQW (wc := (wW_k_X3_headAtomAt ty X t_10.2.2.1 kn on cu pu x8_15_55 t_10.2.1)) (pl := pw ty pp) (va_runV (As := [.int v5_55]) (rest := []) ⟨hx, hb, hml, hown, hts⟩ (k_X3_headAtomAt l D ty td mi H.size X t_10.2.2.1 kn on cu pu x8_15_55 t_10.2.1 v5_55 t_67 ht_67) (cwV 1 hts gv_k_X3_takeInstance_2 rfl rfl rfl (by decide +kernel) ⟨(Nat.le_of_ble_eq_true rfl), (Nat.le_of_ble_eq_true rfl)⟩) (wm_V (wm_preS (vP_left hP) (vD_left hD) hK hE hS hA [true, false, false, false, false, false, true] rfl) (va_recv (q0 := 0) (ci := 5) hK hP rfl rfl)) rfl rfl hl.1 rfl (lv_room (Nat.le_of_ble_eq_true rfl)) dX3_takeInstance_67 ⟨(Nat.le_of_ble_eq_true rfl), (Nat.le_of_ble_eq_true rfl)⟩) hS hA hP hD [true, false, false, false, false, false, true] rfl (fun _ _ h => by rcases h with ⟨-, rfl⟩; rfl) (fun r u H locs hw hP hD hS => ?_)
              obtain ⟨hr0, rfl⟩ := hw
              subst r
              have hP : va_P D vwCl ((wW_k_X3_takeInstance ty X t_10.2.2.1 kn on cu pu x8_15_55 b_1 b_2 t_10.2.2.2 b_p x11_f_55 x13_f_55 t_10.2.1 kr kv kb) ++ pw ty pp) H := hP
              have hD : va_D A ((wW_k_X3_takeInstance ty X t_10.2.2.1 kn on cu pu x8_15_55 b_1 b_2 t_10.2.2.2 b_p x11_f_55 x13_f_55 t_10.2.1 kr kv kb) ++ pw ty pp) := hD
              refine W.widen (k := 0) (n := 0) (Nat.le_of_ble_eq_true rfl) (Nat.le_of_ble_eq_true rfl) ?_
              refine lv_istore (lv' := [(6, .int t_67), (0, .ref (X 8)), (4, .ref (X 12)), (5, .int v5_55)]) hx hb dX3_takeInstance_70 hl (by decide) rfl (fun ls hl => ?_)
              refine lv_aload hx hb dX3_takeInstance_72 (lv_at hl 2 rfl) ?_
              refine lv_iload hx hb dX3_takeInstance_74 (lv_at hl 0 rfl) ?_
              obtain ⟨t_76, ht_76⟩ : ∃ t, t = m_k_X1_add x13_f_55 t_67 := ⟨_, rfl⟩
              rw [lE_eq ht_76] at hT
              refine wq_iQW (wc := (wW_k_X1_add ty (X 12) (X 13) x13_f_55)) (pl := pw ty pp) (va_runV (As := [.int t_67]) (rest := []) ⟨hx, hb, hml, hown, hts⟩ (k_X1_add l D ty td mi H.size (X 12) (X 13) x13_f_55 t_67 t_76 ht_76) (cwV 1 hts gv_k_X3_takeInstance_3 rfl rfl rfl (by decide +kernel) ⟨(Nat.le_of_ble_eq_true rfl), (Nat.le_of_ble_eq_true rfl)⟩) (wm_V (wm_preS (vP_left hP) (vD_left hD) hK hE hS hA [false, false, false, false, true, true] rfl) (va_recv (q0 := 4) (ci := 3) hK hP rfl rfl)) rfl rfl hl.1 rfl (lv_room (Nat.le_of_ble_eq_true rfl)) dX3_takeInstance_76 ⟨(Nat.le_of_ble_eq_true rfl), (Nat.le_of_ble_eq_true rfl)⟩) hS hA hP hD [false, false, false, false, true, true] rfl (fun _ _ h => by rcases h with ⟨-, -, rfl⟩; rfl) (fun r u H locs hw hP hD hS => ?_)
              obtain ⟨rfl, c_13, rfl⟩ := hw
              have hP : va_P D vwCl ((wW_k_X3_takeInstance ty X t_10.2.2.1 kn on cu pu x8_15_55 b_1 b_2 t_10.2.2.2 b_p x11_f_55 t_76.2 t_10.2.1 kr kv kb) ++ pw ty pp) H := hP
              have hD : va_D A ((wW_k_X3_takeInstance ty X t_10.2.2.1 kn on cu pu x8_15_55 b_1 b_2 t_10.2.2.2 b_p x11_f_55 t_76.2 t_10.2.1 kr kv kb) ++ pw ty pp) := hD
              refine W.widen (k := 0) (n := 0) (Nat.le_of_ble_eq_true rfl) (Nat.le_of_ble_eq_true rfl) ?_
              have J_98 : ∀ (x8_15_98 : Int32), TT = m_k_X3_takeInstance_98 (m_k_X3_takeInstance_55 kn kr kv kb t_10 n_55) t_76 v5_55 x11_f_55 x8_15_98 → ∀ (H : Heap) (locs : List Loc), va_P D vwCl ((wW_k_X3_takeInstance ty X t_10.2.2.1 kn on cu pu x8_15_98 b_1 b_2 t_10.2.2.2 b_p x11_f_55 t_76.2 t_10.2.1 kr kv kb) ++ pw ty pp) H → va_D A ((wW_k_X3_takeInstance ty X t_10.2.2.1 kn on cu pu x8_15_98 b_1 b_2 t_10.2.2.2 b_p x11_f_55 t_76.2 t_10.2.1 kr kv kb) ++ pw ty pp) → va_S A s.heap H locs → ∀ ls : Array Slot, lv_has ls 7 [(0, .ref (X 8)), (4, .ref (X 12)), (5, .int v5_55)] → W p l e (headSpec vs_k_X3_takeInstance { frames := 3, cells := 0, slots := 0, locals := 71 }).room s m ([.ref (X 8), .ref a0, .int a1] : List Value).toArray below meth c H locs 0 0 (MQ below (va_Qv (fun u : va_W => ((u = ((wW_k_X3_takeInstance ty X TT.2.2.2.2.2.2.2.1 TT.2.2.2.2.2.2.2.2.1 on cu pu TT.2.2.2.2.2.2.1 b_1 b_2 TT.2.2.2.2.2.2.2.2.2 b_p TT.1 TT.2.1 TT.2.2.1 TT.2.2.2.1 TT.2.2.2.2.1 TT.2.2.2.2.2.1) ++ pw ty pp)))) (wq_B D A) A) ([.ref (X 8), .ref a0, .int a1] : List Value).toArray s 0 0 A) (F0 m 98 ls []) := by
                intro x8_15_98 hT  H locs hP hD hS ls hl
                rw [m_k_X3_takeInstance_98] at hT
                refine lv_iinc (v := v5_55 + 1) (lv' := [(5, .int (v5_55 + 1)), (0, .ref (X 8)), (4, .ref (X 12))]) hx hb dX3_takeInstance_98 hl (k := 2) rfl (by rfl) (by decide) rfl (fun ls hl => ?_)
                refine lv_goto (tgt := 55) hx hb dX3_takeInstance_101 (by decide) ?_
                exact ih_55 (v5_55 + 1) x11_f_55 t_76.2 x8_15_98 (wi_up hu_55 (Int32.not_le.mp c_8)) hT (wi_inc hn_55 (Int32.not_le.mp c_8)) _ _ hP hD hS _ (lv_sub hl [1, 2, 0] rfl)
              refine lv_if_eq (tgt := 98) hx hb dX3_takeInstance_79 (by decide) (fun c_14 => ?_) (fun c_14 => ?_)
              · rw [if_pos c_14] at hT
                exact J_98 x8_15_55 hT _ _ hP hD hS _ (lv_sub hl [1, 2, 3] rfl)
              · rw [if_neg c_14] at hT
                refine lv_aload_n hx hb dX3_takeInstance_82 rfl (lv_at hl 1 rfl) ?_
                refine lv_dup hx hb dX3_takeInstance_83 rfl ?_
                refine va_get (D := D) (ci := 5) (v := .int x8_15_55) (C := RX3) (T := TX3) (N := 16) hx hb hts iv_k_X3_takeInstance_X3 hown hK hP 0 rfl rfl 15 (by decide) (hts (.fieldLink RX3 101 "AnswerFold$Grounding" "grown" "I") (by decide +kernel)) (fun _ h9 => h9) rfl dX3_takeInstance_84 ?_
                refine lv_iconst (v := 1) hx hb dX3_takeInstance_87 (by decide) ?_
                refine lv_iload hx hb dX3_takeInstance_88 (lv_at hl 0 rfl) ?_
                refine lv_bipush (v := 64) hx hb dX3_takeInstance_90 (by decide) ?_
                refine lv_idiv hx hb dX3_takeInstance_92 (by decide) ?_
                refine lv_ishl hx hb dX3_takeInstance_93 ?_
                refine lv_ior hx hb dX3_takeInstance_94 ?_
                refine va_put (D := D) (ci := 5) (v := .int (x8_15_55 ||| ((1 : Int32) <<< ((t_67 / 64) &&& 31)))) (ty := tyX3 15) (C := RX3) (T := TX3) (N := 16) hx hb hts iv_k_X3_takeInstance_X3 tyX3 tyX3_ok nmX3 hown hK hP hD hS 0 rfl rfl 15 (by decide) (hts (.fieldLink RX3 101 "AnswerFold$Grounding" "grown" "I") (by decide +kernel)) (fun _ h9 => h9) rfl (by decide +kernel) rfl rfl (Nat.le_of_ble_eq_true rfl) dX3_takeInstance_95 (fun H locs hP hD hS => ?_)
                have hP : va_P D vwCl ((wW_k_X3_takeInstance ty X t_10.2.2.1 kn on cu pu (x8_15_55 ||| ((1 : Int32) <<< ((t_67 / 64) &&& 31))) b_1 b_2 t_10.2.2.2 b_p x11_f_55 t_76.2 t_10.2.1 kr kv kb) ++ pw ty pp) H := hP
                have hD : va_D A ((wW_k_X3_takeInstance ty X t_10.2.2.1 kn on cu pu (x8_15_55 ||| ((1 : Int32) <<< ((t_67 / 64) &&& 31))) b_1 b_2 t_10.2.2.2 b_p x11_f_55 t_76.2 t_10.2.1 kr kv kb) ++ pw ty pp) := hD
                exact J_98 (x8_15_55 ||| ((1 : Int32) <<< ((t_67 / 64) &&& 31))) hT _ _ hP hD hS _ (lv_sub hl [1, 2, 3] rfl)
        exact L_55 wF 0 su po gw (wF_up 0) hT (by decide) _ _ hP hD hS _ (lv_sub hl [2, 1, 0] rfl)
      have J_50a : ∀ (_ : Unit), TT = m_k_X3_takeInstance_50a kn gw su po kr kv kb t_10 → ∀ (H : Heap) (locs : List Loc), va_P D vwCl ((wW_k_X3_takeInstance ty X t_10.2.2.1 kn on cu pu gw b_1 b_2 t_10.2.2.2 b_p su po t_10.2.1 kr kv kb) ++ pw ty pp) H → va_D A ((wW_k_X3_takeInstance ty X t_10.2.2.1 kn on cu pu gw b_1 b_2 t_10.2.2.2 b_p su po t_10.2.1 kr kv kb) ++ pw ty pp) → va_S A s.heap H locs → ∀ ls : Array Slot, lv_has ls 7 [(0, .ref (X 8))] → W p l e (headSpec vs_k_X3_takeInstance { frames := 3, cells := 0, slots := 0, locals := 71 }).room s m ([.ref (X 8), .ref a0, .int a1] : List Value).toArray below meth c H locs 0 0 (MQ below (va_Qv (fun u : va_W => ((u = ((wW_k_X3_takeInstance ty X TT.2.2.2.2.2.2.2.1 TT.2.2.2.2.2.2.2.2.1 on cu pu TT.2.2.2.2.2.2.1 b_1 b_2 TT.2.2.2.2.2.2.2.2.2 b_p TT.1 TT.2.1 TT.2.2.1 TT.2.2.2.1 TT.2.2.2.2.1 TT.2.2.2.2.2.1) ++ pw ty pp)))) (wq_B D A) A) ([.ref (X 8), .ref a0, .int a1] : List Value).toArray s 0 0 A) (F0 m 50 ls [.ref (X 10)]) := by
        intro _ hT  H locs hP hD hS ls hl
        rw [m_k_X3_takeInstance_50a] at hT
        refine lv_astore (lv' := [(4, .ref (X 10)), (0, .ref (X 8))]) hx hb dX3_takeInstance_50 hl (by decide) rfl (fun ls hl => ?_)
        refine lv_iconst (v := 0) hx hb dX3_takeInstance_52 (by decide) ?_
        refine lv_istore (lv' := [(5, .int 0), (4, .ref (X 10)), (0, .ref (X 8))]) hx hb dX3_takeInstance_53 hl (by decide) rfl (fun ls hl => ?_)
        have L_55a : ∀ (n_55a : Nat) (v5_55a : Int32) (x11_f_55a : Nat → Int64) (x13_f_55a : Nat → Int64) (x8_15_55a : Int32), (2147483648 - v5_55a.toInt).toNat < n_55a → TT = m_k_X3_takeInstance_55a kn kr kv kb t_10 n_55a v5_55a x11_f_55a x13_f_55a x8_15_55a → 0 ≤ v5_55a.toInt → ∀ (H : Heap) (locs : List Loc), va_P D vwCl ((wW_k_X3_takeInstance ty X t_10.2.2.1 kn on cu pu x8_15_55a b_1 b_2 t_10.2.2.2 b_p x11_f_55a x13_f_55a t_10.2.1 kr kv kb) ++ pw ty pp) H → va_D A ((wW_k_X3_takeInstance ty X t_10.2.2.1 kn on cu pu x8_15_55a b_1 b_2 t_10.2.2.2 b_p x11_f_55a x13_f_55a t_10.2.1 kr kv kb) ++ pw ty pp) → va_S A s.heap H locs → ∀ ls : Array Slot, lv_has ls 7 [(0, .ref (X 8)), (4, .ref (X 10)), (5, .int v5_55a)] → W p l e (headSpec vs_k_X3_takeInstance { frames := 3, cells := 0, slots := 0, locals := 71 }).room s m ([.ref (X 8), .ref a0, .int a1] : List Value).toArray below meth c H locs 0 0 (MQ below (va_Qv (fun u : va_W => ((u = ((wW_k_X3_takeInstance ty X TT.2.2.2.2.2.2.2.1 TT.2.2.2.2.2.2.2.2.1 on cu pu TT.2.2.2.2.2.2.1 b_1 b_2 TT.2.2.2.2.2.2.2.2.2 b_p TT.1 TT.2.1 TT.2.2.1 TT.2.2.2.1 TT.2.2.2.2.1 TT.2.2.2.2.2.1) ++ pw ty pp)))) (wq_B D A) A) ([.ref (X 8), .ref a0, .int a1] : List Value).toArray s 0 0 A) (F0 m 55 ls []) := by
          intro n_55a
          induction n_55a with
          | zero => intro v5_55a x11_f_55a x13_f_55a x8_15_55a hu; exact absurd hu (Nat.not_lt_zero _)
          | succ n_55a ih_55a =>
            intro v5_55a x11_f_55a x13_f_55a x8_15_55a hu_55a hT hn_55a H locs hP hD hS ls hl
            rw [m_k_X3_takeInstance_55a_succ, m_k_X3_takeInstance_55as] at hT
            refine lv_iload hx hb dX3_takeInstance_55 (lv_at hl 2 rfl) ?_
            refine lv_aload_n hx hb dX3_takeInstance_57 rfl (lv_at hl 0 rfl) ?_
            refine va_get (D := D) (ci := 5) (v := .int t_10.2.2.1) (C := RX3) (T := TX3) (N := 16) hx hb hts iv_k_X3_takeInstance_X3 hown hK hP 0 rfl rfl 5 (by decide) (hts (.fieldLink RX3 196 "AnswerFold$Grounding" "headCount" "I") (by decide +kernel)) (fun _ h9 => h9) rfl dX3_takeInstance_58 ?_
            refine lv_icmp_ge (tgt := 104) hx hb dX3_takeInstance_61 (by decide) (fun c_15 => ?_) (fun c_15 => ?_)
            · rw [if_pos c_15] at hT
              exact END x11_f_55a x13_f_55a t_10.2.1 kr kv kb x8_15_55a t_10.2.2.1 kn t_10.2.2.2 hT _ _ hP hD hS _ _ dX3_takeInstance_104
            · rw [if_neg c_15] at hT
              refine lv_aload_n hx hb dX3_takeInstance_64 rfl (lv_at hl 0 rfl) ?_
              refine lv_iload hx hb dX3_takeInstance_65 (lv_at hl 2 rfl) ?_
              obtain ⟨t_67, ht_67⟩ : ∃ t, t = m_k_X3_headAtomAt t_10.2.1 v5_55a := ⟨_, rfl⟩
              rw [lE_eq ht_67] at hT
              refine wq_iQW (wc := (wW_k_X3_headAtomAt ty X t_10.2.2.1 kn on cu pu x8_15_55a t_10.2.1)) (pl := pw ty pp) (va_runV (As := [.int v5_55a]) (rest := []) ⟨hx, hb, hml, hown, hts⟩ (k_X3_headAtomAt l D ty td mi H.size X t_10.2.2.1 kn on cu pu x8_15_55a t_10.2.1 v5_55a t_67 ht_67) (cwV 1 hts gv_k_X3_takeInstance_4 rfl rfl rfl (by decide +kernel) ⟨(Nat.le_of_ble_eq_true rfl), (Nat.le_of_ble_eq_true rfl)⟩) (wm_V (wm_preS (vP_left hP) (vD_left hD) hK hE hS hA [true, false, false, false, false, false, true] rfl) (va_recv (q0 := 0) (ci := 5) hK hP rfl rfl)) rfl rfl hl.1 rfl (lv_room (Nat.le_of_ble_eq_true rfl)) dX3_takeInstance_67 ⟨(Nat.le_of_ble_eq_true rfl), (Nat.le_of_ble_eq_true rfl)⟩) hS hA hP hD [true, false, false, false, false, false, true] rfl (fun _ _ h => by rcases h with ⟨-, rfl⟩; rfl) (fun r u H locs hw hP hD hS => ?_)
              obtain ⟨hr0, rfl⟩ := hw
              subst r
              have hP : va_P D vwCl ((wW_k_X3_takeInstance ty X t_10.2.2.1 kn on cu pu x8_15_55a b_1 b_2 t_10.2.2.2 b_p x11_f_55a x13_f_55a t_10.2.1 kr kv kb) ++ pw ty pp) H := hP
              have hD : va_D A ((wW_k_X3_takeInstance ty X t_10.2.2.1 kn on cu pu x8_15_55a b_1 b_2 t_10.2.2.2 b_p x11_f_55a x13_f_55a t_10.2.1 kr kv kb) ++ pw ty pp) := hD
              refine W.widen (k := 0) (n := 0) (Nat.le_of_ble_eq_true rfl) (Nat.le_of_ble_eq_true rfl) ?_
              refine lv_istore (lv' := [(6, .int t_67), (0, .ref (X 8)), (4, .ref (X 10)), (5, .int v5_55a)]) hx hb dX3_takeInstance_70 hl (by decide) rfl (fun ls hl => ?_)
              refine lv_aload hx hb dX3_takeInstance_72 (lv_at hl 2 rfl) ?_
              refine lv_iload hx hb dX3_takeInstance_74 (lv_at hl 0 rfl) ?_
              obtain ⟨t_76, ht_76⟩ : ∃ t, t = m_k_X1_add x11_f_55a t_67 := ⟨_, rfl⟩
              rw [lE_eq ht_76] at hT
              refine wq_iQW (wc := (wW_k_X1_add ty (X 10) (X 11) x11_f_55a)) (pl := pw ty pp) (va_runV (As := [.int t_67]) (rest := []) ⟨hx, hb, hml, hown, hts⟩ (k_X1_add l D ty td mi H.size (X 10) (X 11) x11_f_55a t_67 t_76 ht_76) (cwV 1 hts gv_k_X3_takeInstance_5 rfl rfl rfl (by decide +kernel) ⟨(Nat.le_of_ble_eq_true rfl), (Nat.le_of_ble_eq_true rfl)⟩) (wm_V (wm_preS (vP_left hP) (vD_left hD) hK hE hS hA [false, false, true, true] rfl) (va_recv (q0 := 2) (ci := 3) hK hP rfl rfl)) rfl rfl hl.1 rfl (lv_room (Nat.le_of_ble_eq_true rfl)) dX3_takeInstance_76 ⟨(Nat.le_of_ble_eq_true rfl), (Nat.le_of_ble_eq_true rfl)⟩) hS hA hP hD [false, false, true, true] rfl (fun _ _ h => by rcases h with ⟨-, -, rfl⟩; rfl) (fun r u H locs hw hP hD hS => ?_)
              obtain ⟨rfl, c_20, rfl⟩ := hw
              have hP : va_P D vwCl ((wW_k_X3_takeInstance ty X t_10.2.2.1 kn on cu pu x8_15_55a b_1 b_2 t_10.2.2.2 b_p t_76.2 x13_f_55a t_10.2.1 kr kv kb) ++ pw ty pp) H := hP
              have hD : va_D A ((wW_k_X3_takeInstance ty X t_10.2.2.1 kn on cu pu x8_15_55a b_1 b_2 t_10.2.2.2 b_p t_76.2 x13_f_55a t_10.2.1 kr kv kb) ++ pw ty pp) := hD
              refine W.widen (k := 0) (n := 0) (Nat.le_of_ble_eq_true rfl) (Nat.le_of_ble_eq_true rfl) ?_
              have J_98a : ∀ (x8_15_98a : Int32), TT = m_k_X3_takeInstance_98a (m_k_X3_takeInstance_55a kn kr kv kb t_10 n_55a) t_76 v5_55a x13_f_55a x8_15_98a → ∀ (H : Heap) (locs : List Loc), va_P D vwCl ((wW_k_X3_takeInstance ty X t_10.2.2.1 kn on cu pu x8_15_98a b_1 b_2 t_10.2.2.2 b_p t_76.2 x13_f_55a t_10.2.1 kr kv kb) ++ pw ty pp) H → va_D A ((wW_k_X3_takeInstance ty X t_10.2.2.1 kn on cu pu x8_15_98a b_1 b_2 t_10.2.2.2 b_p t_76.2 x13_f_55a t_10.2.1 kr kv kb) ++ pw ty pp) → va_S A s.heap H locs → ∀ ls : Array Slot, lv_has ls 7 [(0, .ref (X 8)), (4, .ref (X 10)), (5, .int v5_55a)] → W p l e (headSpec vs_k_X3_takeInstance { frames := 3, cells := 0, slots := 0, locals := 71 }).room s m ([.ref (X 8), .ref a0, .int a1] : List Value).toArray below meth c H locs 0 0 (MQ below (va_Qv (fun u : va_W => ((u = ((wW_k_X3_takeInstance ty X TT.2.2.2.2.2.2.2.1 TT.2.2.2.2.2.2.2.2.1 on cu pu TT.2.2.2.2.2.2.1 b_1 b_2 TT.2.2.2.2.2.2.2.2.2 b_p TT.1 TT.2.1 TT.2.2.1 TT.2.2.2.1 TT.2.2.2.2.1 TT.2.2.2.2.2.1) ++ pw ty pp)))) (wq_B D A) A) ([.ref (X 8), .ref a0, .int a1] : List Value).toArray s 0 0 A) (F0 m 98 ls []) := by
                intro x8_15_98a hT  H locs hP hD hS ls hl
                rw [m_k_X3_takeInstance_98a] at hT
                refine lv_iinc (v := v5_55a + 1) (lv' := [(5, .int (v5_55a + 1)), (0, .ref (X 8)), (4, .ref (X 10))]) hx hb dX3_takeInstance_98 hl (k := 2) rfl (by rfl) (by decide) rfl (fun ls hl => ?_)
                refine lv_goto (tgt := 55) hx hb dX3_takeInstance_101 (by decide) ?_
                exact ih_55a (v5_55a + 1) t_76.2 x13_f_55a x8_15_98a (wi_up hu_55a (Int32.not_le.mp c_15)) hT (wi_inc hn_55a (Int32.not_le.mp c_15)) _ _ hP hD hS _ (lv_sub hl [1, 2, 0] rfl)
              refine lv_if_eq (tgt := 98) hx hb dX3_takeInstance_79 (by decide) (fun c_21 => ?_) (fun c_21 => ?_)
              · rw [if_pos c_21] at hT
                exact J_98a x8_15_55a hT _ _ hP hD hS _ (lv_sub hl [1, 2, 3] rfl)
              · rw [if_neg c_21] at hT
                refine lv_aload_n hx hb dX3_takeInstance_82 rfl (lv_at hl 1 rfl) ?_
                refine lv_dup hx hb dX3_takeInstance_83 rfl ?_
                refine va_get (D := D) (ci := 5) (v := .int x8_15_55a) (C := RX3) (T := TX3) (N := 16) hx hb hts iv_k_X3_takeInstance_X3 hown hK hP 0 rfl rfl 15 (by decide) (hts (.fieldLink RX3 101 "AnswerFold$Grounding" "grown" "I") (by decide +kernel)) (fun _ h9 => h9) rfl dX3_takeInstance_84 ?_
                refine lv_iconst (v := 1) hx hb dX3_takeInstance_87 (by decide) ?_
                refine lv_iload hx hb dX3_takeInstance_88 (lv_at hl 0 rfl) ?_
                refine lv_bipush (v := 64) hx hb dX3_takeInstance_90 (by decide) ?_
                refine lv_idiv hx hb dX3_takeInstance_92 (by decide) ?_
                refine lv_ishl hx hb dX3_takeInstance_93 ?_
                refine lv_ior hx hb dX3_takeInstance_94 ?_
                refine va_put (D := D) (ci := 5) (v := .int (x8_15_55a ||| ((1 : Int32) <<< ((t_67 / 64) &&& 31)))) (ty := tyX3 15) (C := RX3) (T := TX3) (N := 16) hx hb hts iv_k_X3_takeInstance_X3 tyX3 tyX3_ok nmX3 hown hK hP hD hS 0 rfl rfl 15 (by decide) (hts (.fieldLink RX3 101 "AnswerFold$Grounding" "grown" "I") (by decide +kernel)) (fun _ h9 => h9) rfl (by decide +kernel) rfl rfl (Nat.le_of_ble_eq_true rfl) dX3_takeInstance_95 (fun H locs hP hD hS => ?_)
                have hP : va_P D vwCl ((wW_k_X3_takeInstance ty X t_10.2.2.1 kn on cu pu (x8_15_55a ||| ((1 : Int32) <<< ((t_67 / 64) &&& 31))) b_1 b_2 t_10.2.2.2 b_p t_76.2 x13_f_55a t_10.2.1 kr kv kb) ++ pw ty pp) H := hP
                have hD : va_D A ((wW_k_X3_takeInstance ty X t_10.2.2.1 kn on cu pu (x8_15_55a ||| ((1 : Int32) <<< ((t_67 / 64) &&& 31))) b_1 b_2 t_10.2.2.2 b_p t_76.2 x13_f_55a t_10.2.1 kr kv kb) ++ pw ty pp) := hD
                exact J_98a (x8_15_55a ||| ((1 : Int32) <<< ((t_67 / 64) &&& 31))) hT _ _ hP hD hS _ (lv_sub hl [1, 2, 3] rfl)
        exact L_55a wF 0 su po gw (wF_up 0) hT (by decide) _ _ hP hD hS _ (lv_sub hl [2, 1, 0] rfl)
      refine lv_if_ne (tgt := 46) hx hb dX3_takeInstance_36 (by decide) (fun c_22 => ?_) (fun c_22 => ?_)
      · rw [if_neg c_22] at hT
        refine lv_aload_n hx hb dX3_takeInstance_46 rfl (lv_at hl 1 rfl) ?_
        refine va_get (D := D) (ci := 5) (v := .ref (X 12)) (C := RX3) (T := TX3) (N := 16) hx hb hts iv_k_X3_takeInstance_X3 hown hK hP 0 rfl rfl 3 (by decide) (hts (.fieldLink RX3 25 "AnswerFold$Grounding" "possible" "LAnswerFold$AtomSet;") (by decide +kernel)) (fun _ h9 => h9) rfl dX3_takeInstance_47 ?_
        exact J_50 () hT _ _ hP hD hS _ (lv_sub hl [1] rfl)
      · rw [if_pos c_22] at hT
        refine lv_aload_n hx hb dX3_takeInstance_39 rfl (lv_at hl 1 rfl) ?_
        refine va_get (D := D) (ci := 5) (v := .ref (X 10)) (C := RX3) (T := TX3) (N := 16) hx hb hts iv_k_X3_takeInstance_X3 hown hK hP 0 rfl rfl 2 (by decide) (hts (.fieldLink RX3 21 "AnswerFold$Grounding" "sure" "LAnswerFold$AtomSet;") (by decide +kernel)) (fun _ h9 => h9) rfl dX3_takeInstance_40 ?_
        refine lv_goto (tgt := 50) hx hb dX3_takeInstance_43 (by decide) ?_
        exact J_50a () hT _ _ hP hD hS _ (lv_sub hl [1] rfl)
    · rw [if_pos c_7] at hT
      refine lv_aload_n hx hb dX3_takeInstance_25 rfl (lv_at hl 1 rfl) ?_
      refine lv_iload_n hx hb dX3_takeInstance_26 rfl (lv_at hl 3 rfl) ?_
      refine lv_iload_n hx hb dX3_takeInstance_27 rfl (lv_at hl 0 rfl) ?_
      obtain ⟨t_28, ht_28⟩ : ∃ t, t = m_k_X3_keep kn kr kv kb a1 t_4 := ⟨_, rfl⟩
      rw [lE_eq ht_28] at hT
      refine wq_vQW (wc := (wW_k_X3_keep ty X t_10.2.2.1 kn on cu pu gw kr kv kb)) (pl := pw ty pp) (va_runV (As := [.int a1, .int t_4]) (rest := []) ⟨hx, hb, hml, hown, hts⟩ (k_X3_keep l D ty td mi H.size X t_10.2.2.1 kn on cu pu gw kr kv kb a1 t_4 t_28 ht_28) (cwV 2 hts gv_k_X3_takeInstance_6 rfl rfl rfl (by decide +kernel) ⟨(Nat.le_of_ble_eq_true rfl), (Nat.le_of_ble_eq_true rfl)⟩) (wm_V (wm_preS (vP_left hP) (vD_left hD) hK hE hS hA [true, false, false, false, false, false, false, true, true, true] rfl) (va_recv (q0 := 0) (ci := 5) hK hP rfl rfl)) rfl rfl hl.1 rfl (lv_room (Nat.le_of_ble_eq_true rfl)) dX3_takeInstance_28 ⟨(Nat.le_of_ble_eq_true rfl), (Nat.le_of_ble_eq_true rfl)⟩) hS hA hP hD [true, false, false, false, false, false, false, true, true, true] rfl (fun _ h => by rcases h with rfl; rfl) (fun u H locs hw hP hD hS => ?_)
      obtain rfl := hw
      have hP : va_P D vwCl ((wW_k_X3_takeInstance ty X t_10.2.2.1 t_28.2.2.2 on cu pu gw b_1 b_2 t_10.2.2.2 b_p su po t_10.2.1 t_28.1 t_28.2.1 t_28.2.2.1) ++ pw ty pp) H := hP
      have hD : va_D A ((wW_k_X3_takeInstance ty X t_10.2.2.1 t_28.2.2.2 on cu pu gw b_1 b_2 t_10.2.2.2 b_p su po t_10.2.1 t_28.1 t_28.2.1 t_28.2.2.1) ++ pw ty pp) := hD
      refine W.widen (k := 0) (n := 0) (Nat.le_of_ble_eq_true rfl) (Nat.le_of_ble_eq_true rfl) ?_
      exact END su po t_10.2.1 t_28.1 t_28.2.1 t_28.2.2.1 gw t_10.2.2.1 t_28.2.2.2 t_10.2.2.2 hT _ _ hP hD hS _ _ dX3_takeInstance_31
  · rw [if_pos c_6] at hT
    exact END su po t_10.2.1 kr kv kb gw t_10.2.2.1 kn t_10.2.2.2 hT _ _ hP hD hS _ _ dX3_takeInstance_16
theorem dX3_eachInstance_0 : decode cX3_eachInstance 0 = .ok (.aload_n 0, 1) := by decide +kernel
theorem dX3_eachInstance_1 : decode cX3_eachInstance 1 = .ok (.getfield 12, 3) := by decide +kernel
theorem dX3_eachInstance_4 : decode cX3_eachInstance 4 = .ok (.iload_n 3, 1) := by decide +kernel
theorem dX3_eachInstance_5 : decode cX3_eachInstance 5 = .ok (.putfield 135, 3) := by decide +kernel
theorem dX3_eachInstance_8 : decode cX3_eachInstance 8 = .ok (.iload_n 3, 1) := by decide +kernel
theorem dX3_eachInstance_9 : decode cX3_eachInstance 9 = .ok (.iconst (-1), 1) := by decide +kernel
theorem dX3_eachInstance_10 : decode cX3_eachInstance 10 = .ok (.if_icmp .eq 12, 3) := by decide +kernel
theorem dX3_eachInstance_13 : decode cX3_eachInstance 13 = .ok (.aload_n 0, 1) := by decide +kernel
theorem dX3_eachInstance_14 : decode cX3_eachInstance 14 = .ok (.aload_n 1, 1) := by decide +kernel
theorem dX3_eachInstance_15 : decode cX3_eachInstance 15 = .ok (.iconst 0, 1) := by decide +kernel
theorem dX3_eachInstance_16 : decode cX3_eachInstance 16 = .ok (.invokevirtual 138, 3) := by decide +kernel
theorem dX3_eachInstance_19 : decode cX3_eachInstance 19 = .ok (.ifCond .ne 4, 3) := by decide +kernel
theorem dX3_eachInstance_22 : decode cX3_eachInstance 22 = .ok (.return_, 1) := by decide +kernel
theorem dX3_eachInstance_23 : decode cX3_eachInstance 23 = .ok (.aload_n 1, 1) := by decide +kernel
theorem dX3_eachInstance_24 : decode cX3_eachInstance 24 = .ok (.iconst 1, 1) := by decide +kernel
theorem dX3_eachInstance_25 : decode cX3_eachInstance 25 = .ok (.invokevirtual 142, 3) := by decide +kernel
theorem dX3_eachInstance_28 : decode cX3_eachInstance 28 = .ok (.istore 4, 2) := by decide +kernel
theorem dX3_eachInstance_30 : decode cX3_eachInstance 30 = .ok (.aload_n 1, 1) := by decide +kernel
theorem dX3_eachInstance_31 : decode cX3_eachInstance 31 = .ok (.iconst 2, 1) := by decide +kernel
theorem dX3_eachInstance_32 : decode cX3_eachInstance 32 = .ok (.invokevirtual 142, 3) := by decide +kernel
theorem dX3_eachInstance_35 : decode cX3_eachInstance 35 = .ok (.istore 5, 2) := by decide +kernel
theorem dX3_eachInstance_37 : decode cX3_eachInstance 37 = .ok (.aload_n 1, 1) := by decide +kernel
theorem dX3_eachInstance_38 : decode cX3_eachInstance 38 = .ok (.iconst 3, 1) := by decide +kernel
theorem dX3_eachInstance_39 : decode cX3_eachInstance 39 = .ok (.invokevirtual 142, 3) := by decide +kernel
theorem dX3_eachInstance_42 : decode cX3_eachInstance 42 = .ok (.istore 6, 2) := by decide +kernel
theorem dX3_eachInstance_44 : decode cX3_eachInstance 44 = .ok (.iconst 0, 1) := by decide +kernel
theorem dX3_eachInstance_45 : decode cX3_eachInstance 45 = .ok (.istore 7, 2) := by decide +kernel
theorem dX3_eachInstance_47 : decode cX3_eachInstance 47 = .ok (.iload 7, 2) := by decide +kernel
theorem dX3_eachInstance_49 : decode cX3_eachInstance 49 = .ok (.iload 4, 2) := by decide +kernel
theorem dX3_eachInstance_51 : decode cX3_eachInstance 51 = .ok (.if_icmp .ge 107, 3) := by decide +kernel
theorem dX3_eachInstance_54 : decode cX3_eachInstance 54 = .ok (.aload_n 0, 1) := by decide +kernel
theorem dX3_eachInstance_55 : decode cX3_eachInstance 55 = .ok (.getfield 12, 3) := by decide +kernel
theorem dX3_eachInstance_58 : decode cX3_eachInstance 58 = .ok (.iload 7, 2) := by decide +kernel
theorem dX3_eachInstance_60 : decode cX3_eachInstance 60 = .ok (.putfield 145, 3) := by decide +kernel
theorem dX3_eachInstance_63 : decode cX3_eachInstance 63 = .ok (.aload_n 0, 1) := by decide +kernel
theorem dX3_eachInstance_64 : decode cX3_eachInstance 64 = .ok (.aload_n 1, 1) := by decide +kernel
theorem dX3_eachInstance_65 : decode cX3_eachInstance 65 = .ok (.iconst 1, 1) := by decide +kernel
theorem dX3_eachInstance_66 : decode cX3_eachInstance 66 = .ok (.invokevirtual 138, 3) := by decide +kernel
theorem dX3_eachInstance_69 : decode cX3_eachInstance 69 = .ok (.ifCond .ne 6, 3) := by decide +kernel
theorem dX3_eachInstance_72 : decode cX3_eachInstance 72 = .ok (.goto 80, 3) := by decide +kernel
theorem dX3_eachInstance_75 : decode cX3_eachInstance 75 = .ok (.iconst 0, 1) := by decide +kernel
theorem dX3_eachInstance_76 : decode cX3_eachInstance 76 = .ok (.istore 8, 2) := by decide +kernel
theorem dX3_eachInstance_78 : decode cX3_eachInstance 78 = .ok (.iload 8, 2) := by decide +kernel
theorem dX3_eachInstance_80 : decode cX3_eachInstance 80 = .ok (.iload 5, 2) := by decide +kernel
theorem dX3_eachInstance_82 : decode cX3_eachInstance 82 = .ok (.if_icmp .ge 70, 3) := by decide +kernel
theorem dX3_eachInstance_85 : decode cX3_eachInstance 85 = .ok (.aload_n 0, 1) := by decide +kernel
theorem dX3_eachInstance_86 : decode cX3_eachInstance 86 = .ok (.getfield 12, 3) := by decide +kernel
theorem dX3_eachInstance_89 : decode cX3_eachInstance 89 = .ok (.iload 8, 2) := by decide +kernel
theorem dX3_eachInstance_91 : decode cX3_eachInstance 91 = .ok (.putfield 148, 3) := by decide +kernel
theorem dX3_eachInstance_94 : decode cX3_eachInstance 94 = .ok (.aload_n 0, 1) := by decide +kernel
theorem dX3_eachInstance_95 : decode cX3_eachInstance 95 = .ok (.aload_n 1, 1) := by decide +kernel
theorem dX3_eachInstance_96 : decode cX3_eachInstance 96 = .ok (.iconst 2, 1) := by decide +kernel
theorem dX3_eachInstance_97 : decode cX3_eachInstance 97 = .ok (.invokevirtual 138, 3) := by decide +kernel
theorem dX3_eachInstance_100 : decode cX3_eachInstance 100 = .ok (.ifCond .ne 6, 3) := by decide +kernel
theorem dX3_eachInstance_103 : decode cX3_eachInstance 103 = .ok (.goto 43, 3) := by decide +kernel
theorem dX3_eachInstance_106 : decode cX3_eachInstance 106 = .ok (.iconst 0, 1) := by decide +kernel
theorem dX3_eachInstance_107 : decode cX3_eachInstance 107 = .ok (.istore 9, 2) := by decide +kernel
theorem dX3_eachInstance_109 : decode cX3_eachInstance 109 = .ok (.iload 9, 2) := by decide +kernel
theorem dX3_eachInstance_111 : decode cX3_eachInstance 111 = .ok (.iload 6, 2) := by decide +kernel
theorem dX3_eachInstance_113 : decode cX3_eachInstance 113 = .ok (.if_icmp .ge 33, 3) := by decide +kernel
theorem dX3_eachInstance_116 : decode cX3_eachInstance 116 = .ok (.aload_n 0, 1) := by decide +kernel
theorem dX3_eachInstance_117 : decode cX3_eachInstance 117 = .ok (.getfield 12, 3) := by decide +kernel
theorem dX3_eachInstance_120 : decode cX3_eachInstance 120 = .ok (.iload 9, 2) := by decide +kernel
theorem dX3_eachInstance_122 : decode cX3_eachInstance 122 = .ok (.putfield 151, 3) := by decide +kernel
theorem dX3_eachInstance_125 : decode cX3_eachInstance 125 = .ok (.aload_n 0, 1) := by decide +kernel
theorem dX3_eachInstance_126 : decode cX3_eachInstance 126 = .ok (.aload_n 1, 1) := by decide +kernel
theorem dX3_eachInstance_127 : decode cX3_eachInstance 127 = .ok (.iconst 3, 1) := by decide +kernel
theorem dX3_eachInstance_128 : decode cX3_eachInstance 128 = .ok (.invokevirtual 138, 3) := by decide +kernel
theorem dX3_eachInstance_131 : decode cX3_eachInstance 131 = .ok (.ifCond .eq 9, 3) := by decide +kernel
theorem dX3_eachInstance_134 : decode cX3_eachInstance 134 = .ok (.aload_n 0, 1) := by decide +kernel
theorem dX3_eachInstance_135 : decode cX3_eachInstance 135 = .ok (.aload_n 1, 1) := by decide +kernel
theorem dX3_eachInstance_136 : decode cX3_eachInstance 136 = .ok (.iload_n 2, 1) := by decide +kernel
theorem dX3_eachInstance_137 : decode cX3_eachInstance 137 = .ok (.invokevirtual 154, 3) := by decide +kernel
theorem dX3_eachInstance_140 : decode cX3_eachInstance 140 = .ok (.iinc 9 1, 3) := by decide +kernel
theorem dX3_eachInstance_143 : decode cX3_eachInstance 143 = .ok (.goto (-34), 3) := by decide +kernel
theorem dX3_eachInstance_146 : decode cX3_eachInstance 146 = .ok (.iinc 8 1, 3) := by decide +kernel
theorem dX3_eachInstance_149 : decode cX3_eachInstance 149 = .ok (.goto (-71), 3) := by decide +kernel
theorem dX3_eachInstance_152 : decode cX3_eachInstance 152 = .ok (.iinc 7 1, 3) := by decide +kernel
theorem dX3_eachInstance_155 : decode cX3_eachInstance 155 = .ok (.goto (-108), 3) := by decide +kernel
theorem dX3_eachInstance_158 : decode cX3_eachInstance 158 = .ok (.return_, 1) := by decide +kernel
def wW_k_X3_eachInstance (ty : Nat → ClassId) (X : Nat → Nat) (z9_0 : Int32) (z9_1 : Int32) (z9_2 : Int32) (z9_3 : Int32) (z9_4 : Int32) (z9_5 : Int32) (z9_6 : Int32) (z9_7 : Int32) (z9_8 : Int32) (z9_9 : Int32) (z9_10 : Nat → Int64) (z9_11 : Nat → Int64) (z9_12 : Nat → Int32) (z9_13 : Nat → Int32) (z9_14 : Nat → Int32) (z9_15 : Nat → Int32) : va_W := [((X 8), .inr (5, [.ref (X 1), .ref (X 9), .ref (X 10), .ref (X 12), .ref (X 14), .int z9_0, .ref (X 15), .ref (X 16), .ref (X 17), .int z9_1, .ref (X 18), .ref (X 19), .int z9_2, .int z9_3, .int z9_4, .int z9_5])), ((X 9), .inr (4, [.int z9_6, .int z9_7, .int z9_8, .int z9_9])), ((X 10), .inr (3, [.ref (X 11)])), ((X 11), .inl (ty 1, 6, .inr (.inl z9_10))), ((X 12), .inr (3, [.ref (X 13)])), ((X 13), .inl (ty 1, 6, .inr (.inl z9_11))), ((X 14), .inl (ty 0, 16, .inl z9_12)), ((X 15), .inl (ty 0, 300, .inl z9_13)), ((X 16), .inl (ty 0, 300, .inl z9_14)), ((X 17), .inl (ty 0, 20, .inl z9_15))]
abbrev r_k_X3_eachInstance : Type := (Nat → Int64) × (Nat → Int64) × (Nat → Int32) × (Nat → Int32) × (Nat → Int32) × (Nat → Int32) × Int32 × Int32 × Int32 × Int32 × Int32 × Int32 × Int32
def m_k_X3_eachInstance_152 (rec_47 : Int32 → (Nat → Int64) → (Nat → Int64) → (Nat → Int32) → (Nat → Int32) → (Nat → Int32) → (Nat → Int32) → Int32 → Int32 → Int32 → Int32 → Int32 → Int32 → r_k_X3_eachInstance) (v7_47 : Int32) (x11_f_152 : Nat → Int64) (x13_f_152 : Nat → Int64) (x14_f_152 : Nat → Int32) (x15_f_152 : Nat → Int32) (x16_f_152 : Nat → Int32) (x17_f_152 : Nat → Int32) (x8_15_152 : Int32) (x8_5_152 : Int32) (x8_9_152 : Int32) (x9_1_152 : Int32) (x9_2_152 : Int32) : r_k_X3_eachInstance :=
  rec_47 (v7_47 + 1) x11_f_152 x13_f_152 x14_f_152 x15_f_152 x16_f_152 x17_f_152 x8_15_152 x8_5_152 x8_9_152 v7_47 x9_1_152 x9_2_152
def m_k_X3_eachInstance_146 (rec_78 : Int32 → (Nat → Int64) → (Nat → Int64) → (Nat → Int32) → (Nat → Int32) → (Nat → Int32) → (Nat → Int32) → Int32 → Int32 → Int32 → Int32 → Int32 → r_k_X3_eachInstance) (v8_78 : Int32) (x11_f_146 : Nat → Int64) (x13_f_146 : Nat → Int64) (x14_f_146 : Nat → Int32) (x15_f_146 : Nat → Int32) (x16_f_146 : Nat → Int32) (x17_f_146 : Nat → Int32) (x8_15_146 : Int32) (x8_5_146 : Int32) (x8_9_146 : Int32) (x9_2_146 : Int32) : r_k_X3_eachInstance :=
  rec_78 (v8_78 + 1) x11_f_146 x13_f_146 x14_f_146 x15_f_146 x16_f_146 x17_f_146 x8_15_146 x8_5_146 x8_9_146 v8_78 x9_2_146
def m_k_X3_eachInstance_140 (rec_109 : Int32 → (Nat → Int64) → (Nat → Int64) → (Nat → Int32) → (Nat → Int32) → (Nat → Int32) → (Nat → Int32) → Int32 → Int32 → Int32 → Int32 → r_k_X3_eachInstance) (v9_109 : Int32) (x11_f_140 : Nat → Int64) (x13_f_140 : Nat → Int64) (x14_f_140 : Nat → Int32) (x15_f_140 : Nat → Int32) (x16_f_140 : Nat → Int32) (x17_f_140 : Nat → Int32) (x8_15_140 : Int32) (x8_5_140 : Int32) (x8_9_140 : Int32) (x9_2_140 : Int32) : r_k_X3_eachInstance :=
  rec_109 (v9_109 + 1) x11_f_140 x13_f_140 x14_f_140 x15_f_140 x16_f_140 x17_f_140 x8_15_140 x8_5_140 x8_9_140 x9_2_140
def m_k_X3_eachInstance_109s (pp : pT) (pu : Int32) (a0 : Nat) (a1 : Int32) (a2 : Int32) (rec_78 : Int32 → (Nat → Int64) → (Nat → Int64) → (Nat → Int32) → (Nat → Int32) → (Nat → Int32) → (Nat → Int32) → Int32 → Int32 → Int32 → Int32 → Int32 → r_k_X3_eachInstance) (t_39 : r_k_X8_valuesFor) (v7_47 : Int32) (v8_78 : Int32) (rec_109 : Int32 → (Nat → Int64) → (Nat → Int64) → (Nat → Int32) → (Nat → Int32) → (Nat → Int32) → (Nat → Int32) → Int32 → Int32 → Int32 → Int32 → r_k_X3_eachInstance) (v9_109 : Int32) (x11_f_109 : Nat → Int64) (x13_f_109 : Nat → Int64) (x14_f_109 : Nat → Int32) (x15_f_109 : Nat → Int32) (x16_f_109 : Nat → Int32) (x17_f_109 : Nat → Int32) (x8_15_109 : Int32) (x8_5_109 : Int32) (x8_9_109 : Int32) (x9_2_109 : Int32) : r_k_X3_eachInstance :=
  if t_39 ≤ v9_109 then
    m_k_X3_eachInstance_146 rec_78 v8_78 x11_f_109 x13_f_109 x14_f_109 x15_f_109 x16_f_109 x17_f_109 x8_15_109 x8_5_109 x8_9_109 x9_2_109
  else
    lE (m_k_X3_mayHold pp pu v7_47 v8_78 v9_109 a2 x11_f_109 x13_f_109 a0 3) (fun t_128 =>
      if t_128 = 0 then
        m_k_X3_eachInstance_140 rec_109 v9_109 x11_f_109 x13_f_109 x14_f_109 x15_f_109 x16_f_109 x17_f_109 x8_15_109 x8_5_109 x8_9_109 v9_109
      else
        lE (m_k_X3_takeInstance pp x8_9_109 pu x8_15_109 v7_47 v8_78 v9_109 a2 x11_f_109 x13_f_109 x14_f_109 x15_f_109 x16_f_109 x17_f_109 a0 a1) (fun t_137 =>
          m_k_X3_eachInstance_140 rec_109 v9_109 t_137.1 t_137.2.1 t_137.2.2.1 t_137.2.2.2.1 t_137.2.2.2.2.1 t_137.2.2.2.2.2.1 t_137.2.2.2.2.2.2.1 t_137.2.2.2.2.2.2.2.1 t_137.2.2.2.2.2.2.2.2.1 t_137.2.2.2.2.2.2.2.2.2))
def m_k_X3_eachInstance_109 (pp : pT) (pu : Int32) (a0 : Nat) (a1 : Int32) (a2 : Int32) (rec_78 : Int32 → (Nat → Int64) → (Nat → Int64) → (Nat → Int32) → (Nat → Int32) → (Nat → Int32) → (Nat → Int32) → Int32 → Int32 → Int32 → Int32 → Int32 → r_k_X3_eachInstance) (t_39 : r_k_X8_valuesFor) (v7_47 : Int32) (v8_78 : Int32) : Nat → Int32 → (Nat → Int64) → (Nat → Int64) → (Nat → Int32) → (Nat → Int32) → (Nat → Int32) → (Nat → Int32) → Int32 → Int32 → Int32 → Int32 → r_k_X3_eachInstance
  | 0, _, _, _, _, _, _, _, _, _, _, _ => ((fun _ => 0), (fun _ => 0), (fun _ => 0), (fun _ => 0), (fun _ => 0), (fun _ => 0), 0, 0, 0, 0, 0, 0, 0)
  | n + 1, v9_109, x11_f_109, x13_f_109, x14_f_109, x15_f_109, x16_f_109, x17_f_109, x8_15_109, x8_5_109, x8_9_109, x9_2_109 => m_k_X3_eachInstance_109s pp pu a0 a1 a2 rec_78 t_39 v7_47 v8_78 (fun v9_109 x11_f_109 x13_f_109 x14_f_109 x15_f_109 x16_f_109 x17_f_109 x8_15_109 x8_5_109 x8_9_109 x9_2_109 => m_k_X3_eachInstance_109 pp pu a0 a1 a2 rec_78 t_39 v7_47 v8_78 n v9_109 x11_f_109 x13_f_109 x14_f_109 x15_f_109 x16_f_109 x17_f_109 x8_15_109 x8_5_109 x8_9_109 x9_2_109) v9_109 x11_f_109 x13_f_109 x14_f_109 x15_f_109 x16_f_109 x17_f_109 x8_15_109 x8_5_109 x8_9_109 x9_2_109
theorem m_k_X3_eachInstance_109_succ (pp : pT) (pu : Int32) (a0 : Nat) (a1 : Int32) (a2 : Int32) (rec_78 : Int32 → (Nat → Int64) → (Nat → Int64) → (Nat → Int32) → (Nat → Int32) → (Nat → Int32) → (Nat → Int32) → Int32 → Int32 → Int32 → Int32 → Int32 → r_k_X3_eachInstance) (t_39 : r_k_X8_valuesFor) (v7_47 : Int32) (v8_78 : Int32) (n : Nat) (v9_109 : Int32) (x11_f_109 : Nat → Int64) (x13_f_109 : Nat → Int64) (x14_f_109 : Nat → Int32) (x15_f_109 : Nat → Int32) (x16_f_109 : Nat → Int32) (x17_f_109 : Nat → Int32) (x8_15_109 : Int32) (x8_5_109 : Int32) (x8_9_109 : Int32) (x9_2_109 : Int32) : m_k_X3_eachInstance_109 pp pu a0 a1 a2 rec_78 t_39 v7_47 v8_78 (n + 1) v9_109 x11_f_109 x13_f_109 x14_f_109 x15_f_109 x16_f_109 x17_f_109 x8_15_109 x8_5_109 x8_9_109 x9_2_109 = m_k_X3_eachInstance_109s pp pu a0 a1 a2 rec_78 t_39 v7_47 v8_78 (m_k_X3_eachInstance_109 pp pu a0 a1 a2 rec_78 t_39 v7_47 v8_78 n) v9_109 x11_f_109 x13_f_109 x14_f_109 x15_f_109 x16_f_109 x17_f_109 x8_15_109 x8_5_109 x8_9_109 x9_2_109 := rfl
def m_k_X3_eachInstance_78s (pp : pT) (pu : Int32) (a0 : Nat) (a1 : Int32) (a2 : Int32) (rec_47 : Int32 → (Nat → Int64) → (Nat → Int64) → (Nat → Int32) → (Nat → Int32) → (Nat → Int32) → (Nat → Int32) → Int32 → Int32 → Int32 → Int32 → Int32 → Int32 → r_k_X3_eachInstance) (t_32 : r_k_X8_valuesFor) (t_39 : r_k_X8_valuesFor) (v7_47 : Int32) (rec_78 : Int32 → (Nat → Int64) → (Nat → Int64) → (Nat → Int32) → (Nat → Int32) → (Nat → Int32) → (Nat → Int32) → Int32 → Int32 → Int32 → Int32 → Int32 → r_k_X3_eachInstance) (v8_78 : Int32) (x11_f_78 : Nat → Int64) (x13_f_78 : Nat → Int64) (x14_f_78 : Nat → Int32) (x15_f_78 : Nat → Int32) (x16_f_78 : Nat → Int32) (x17_f_78 : Nat → Int32) (x8_15_78 : Int32) (x8_5_78 : Int32) (x8_9_78 : Int32) (x9_1_78 : Int32) (x9_2_78 : Int32) : r_k_X3_eachInstance :=
  if t_32 ≤ v8_78 then
    m_k_X3_eachInstance_152 rec_47 v7_47 x11_f_78 x13_f_78 x14_f_78 x15_f_78 x16_f_78 x17_f_78 x8_15_78 x8_5_78 x8_9_78 x9_1_78 x9_2_78
  else
    lE (m_k_X3_mayHold pp pu v7_47 v8_78 x9_2_78 a2 x11_f_78 x13_f_78 a0 2) (fun t_97 =>
      if t_97 = 0 then
        m_k_X3_eachInstance_146 rec_78 v8_78 x11_f_78 x13_f_78 x14_f_78 x15_f_78 x16_f_78 x17_f_78 x8_15_78 x8_5_78 x8_9_78 x9_2_78
      else
        m_k_X3_eachInstance_109 pp pu a0 a1 a2 rec_78 t_39 v7_47 v8_78 wF 0 x11_f_78 x13_f_78 x14_f_78 x15_f_78 x16_f_78 x17_f_78 x8_15_78 x8_5_78 x8_9_78 x9_2_78)
def m_k_X3_eachInstance_78 (pp : pT) (pu : Int32) (a0 : Nat) (a1 : Int32) (a2 : Int32) (rec_47 : Int32 → (Nat → Int64) → (Nat → Int64) → (Nat → Int32) → (Nat → Int32) → (Nat → Int32) → (Nat → Int32) → Int32 → Int32 → Int32 → Int32 → Int32 → Int32 → r_k_X3_eachInstance) (t_32 : r_k_X8_valuesFor) (t_39 : r_k_X8_valuesFor) (v7_47 : Int32) : Nat → Int32 → (Nat → Int64) → (Nat → Int64) → (Nat → Int32) → (Nat → Int32) → (Nat → Int32) → (Nat → Int32) → Int32 → Int32 → Int32 → Int32 → Int32 → r_k_X3_eachInstance
  | 0, _, _, _, _, _, _, _, _, _, _, _, _ => ((fun _ => 0), (fun _ => 0), (fun _ => 0), (fun _ => 0), (fun _ => 0), (fun _ => 0), 0, 0, 0, 0, 0, 0, 0)
  | n + 1, v8_78, x11_f_78, x13_f_78, x14_f_78, x15_f_78, x16_f_78, x17_f_78, x8_15_78, x8_5_78, x8_9_78, x9_1_78, x9_2_78 => m_k_X3_eachInstance_78s pp pu a0 a1 a2 rec_47 t_32 t_39 v7_47 (fun v8_78 x11_f_78 x13_f_78 x14_f_78 x15_f_78 x16_f_78 x17_f_78 x8_15_78 x8_5_78 x8_9_78 x9_1_78 x9_2_78 => m_k_X3_eachInstance_78 pp pu a0 a1 a2 rec_47 t_32 t_39 v7_47 n v8_78 x11_f_78 x13_f_78 x14_f_78 x15_f_78 x16_f_78 x17_f_78 x8_15_78 x8_5_78 x8_9_78 x9_1_78 x9_2_78) v8_78 x11_f_78 x13_f_78 x14_f_78 x15_f_78 x16_f_78 x17_f_78 x8_15_78 x8_5_78 x8_9_78 x9_1_78 x9_2_78
theorem m_k_X3_eachInstance_78_succ (pp : pT) (pu : Int32) (a0 : Nat) (a1 : Int32) (a2 : Int32) (rec_47 : Int32 → (Nat → Int64) → (Nat → Int64) → (Nat → Int32) → (Nat → Int32) → (Nat → Int32) → (Nat → Int32) → Int32 → Int32 → Int32 → Int32 → Int32 → Int32 → r_k_X3_eachInstance) (t_32 : r_k_X8_valuesFor) (t_39 : r_k_X8_valuesFor) (v7_47 : Int32) (n : Nat) (v8_78 : Int32) (x11_f_78 : Nat → Int64) (x13_f_78 : Nat → Int64) (x14_f_78 : Nat → Int32) (x15_f_78 : Nat → Int32) (x16_f_78 : Nat → Int32) (x17_f_78 : Nat → Int32) (x8_15_78 : Int32) (x8_5_78 : Int32) (x8_9_78 : Int32) (x9_1_78 : Int32) (x9_2_78 : Int32) : m_k_X3_eachInstance_78 pp pu a0 a1 a2 rec_47 t_32 t_39 v7_47 (n + 1) v8_78 x11_f_78 x13_f_78 x14_f_78 x15_f_78 x16_f_78 x17_f_78 x8_15_78 x8_5_78 x8_9_78 x9_1_78 x9_2_78 = m_k_X3_eachInstance_78s pp pu a0 a1 a2 rec_47 t_32 t_39 v7_47 (m_k_X3_eachInstance_78 pp pu a0 a1 a2 rec_47 t_32 t_39 v7_47 n) v8_78 x11_f_78 x13_f_78 x14_f_78 x15_f_78 x16_f_78 x17_f_78 x8_15_78 x8_5_78 x8_9_78 x9_1_78 x9_2_78 := rfl
def m_k_X3_eachInstance_47s (pp : pT) (pu : Int32) (a0 : Nat) (a1 : Int32) (a2 : Int32) (t_25 : r_k_X8_valuesFor) (t_32 : r_k_X8_valuesFor) (t_39 : r_k_X8_valuesFor) (rec_47 : Int32 → (Nat → Int64) → (Nat → Int64) → (Nat → Int32) → (Nat → Int32) → (Nat → Int32) → (Nat → Int32) → Int32 → Int32 → Int32 → Int32 → Int32 → Int32 → r_k_X3_eachInstance) (v7_47 : Int32) (x11_f_47 : Nat → Int64) (x13_f_47 : Nat → Int64) (x14_f_47 : Nat → Int32) (x15_f_47 : Nat → Int32) (x16_f_47 : Nat → Int32) (x17_f_47 : Nat → Int32) (x8_15_47 : Int32) (x8_5_47 : Int32) (x8_9_47 : Int32) (x9_0_47 : Int32) (x9_1_47 : Int32) (x9_2_47 : Int32) : r_k_X3_eachInstance :=
  if t_25 ≤ v7_47 then
    (x11_f_47, x13_f_47, x14_f_47, x15_f_47, x16_f_47, x17_f_47, x8_15_47, x8_5_47, x8_9_47, x9_0_47, x9_1_47, x9_2_47, a2)
  else
    lE (m_k_X3_mayHold pp pu v7_47 x9_1_47 x9_2_47 a2 x11_f_47 x13_f_47 a0 1) (fun t_66 =>
      if t_66 = 0 then
        m_k_X3_eachInstance_152 rec_47 v7_47 x11_f_47 x13_f_47 x14_f_47 x15_f_47 x16_f_47 x17_f_47 x8_15_47 x8_5_47 x8_9_47 x9_1_47 x9_2_47
      else
        m_k_X3_eachInstance_78 pp pu a0 a1 a2 rec_47 t_32 t_39 v7_47 wF 0 x11_f_47 x13_f_47 x14_f_47 x15_f_47 x16_f_47 x17_f_47 x8_15_47 x8_5_47 x8_9_47 x9_1_47 x9_2_47)
def m_k_X3_eachInstance_47 (pp : pT) (pu : Int32) (a0 : Nat) (a1 : Int32) (a2 : Int32) (t_25 : r_k_X8_valuesFor) (t_32 : r_k_X8_valuesFor) (t_39 : r_k_X8_valuesFor) : Nat → Int32 → (Nat → Int64) → (Nat → Int64) → (Nat → Int32) → (Nat → Int32) → (Nat → Int32) → (Nat → Int32) → Int32 → Int32 → Int32 → Int32 → Int32 → Int32 → r_k_X3_eachInstance
  | 0, _, _, _, _, _, _, _, _, _, _, _, _, _ => ((fun _ => 0), (fun _ => 0), (fun _ => 0), (fun _ => 0), (fun _ => 0), (fun _ => 0), 0, 0, 0, 0, 0, 0, 0)
  | n + 1, v7_47, x11_f_47, x13_f_47, x14_f_47, x15_f_47, x16_f_47, x17_f_47, x8_15_47, x8_5_47, x8_9_47, x9_0_47, x9_1_47, x9_2_47 => m_k_X3_eachInstance_47s pp pu a0 a1 a2 t_25 t_32 t_39 (fun v7_47 x11_f_47 x13_f_47 x14_f_47 x15_f_47 x16_f_47 x17_f_47 x8_15_47 x8_5_47 x8_9_47 x9_0_47 x9_1_47 x9_2_47 => m_k_X3_eachInstance_47 pp pu a0 a1 a2 t_25 t_32 t_39 n v7_47 x11_f_47 x13_f_47 x14_f_47 x15_f_47 x16_f_47 x17_f_47 x8_15_47 x8_5_47 x8_9_47 x9_0_47 x9_1_47 x9_2_47) v7_47 x11_f_47 x13_f_47 x14_f_47 x15_f_47 x16_f_47 x17_f_47 x8_15_47 x8_5_47 x8_9_47 x9_0_47 x9_1_47 x9_2_47
theorem m_k_X3_eachInstance_47_succ (pp : pT) (pu : Int32) (a0 : Nat) (a1 : Int32) (a2 : Int32) (t_25 : r_k_X8_valuesFor) (t_32 : r_k_X8_valuesFor) (t_39 : r_k_X8_valuesFor) (n : Nat) (v7_47 : Int32) (x11_f_47 : Nat → Int64) (x13_f_47 : Nat → Int64) (x14_f_47 : Nat → Int32) (x15_f_47 : Nat → Int32) (x16_f_47 : Nat → Int32) (x17_f_47 : Nat → Int32) (x8_15_47 : Int32) (x8_5_47 : Int32) (x8_9_47 : Int32) (x9_0_47 : Int32) (x9_1_47 : Int32) (x9_2_47 : Int32) : m_k_X3_eachInstance_47 pp pu a0 a1 a2 t_25 t_32 t_39 (n + 1) v7_47 x11_f_47 x13_f_47 x14_f_47 x15_f_47 x16_f_47 x17_f_47 x8_15_47 x8_5_47 x8_9_47 x9_0_47 x9_1_47 x9_2_47 = m_k_X3_eachInstance_47s pp pu a0 a1 a2 t_25 t_32 t_39 (m_k_X3_eachInstance_47 pp pu a0 a1 a2 t_25 t_32 t_39 n) v7_47 x11_f_47 x13_f_47 x14_f_47 x15_f_47 x16_f_47 x17_f_47 x8_15_47 x8_5_47 x8_9_47 x9_0_47 x9_1_47 x9_2_47 := rfl
def m_k_X3_eachInstance (pp : pT) (hn : Int32) (kn : Int32) (pu : Int32) (gw : Int32) (b_1 : Int32) (b_2 : Int32) (b_3 : Int32) (su : Nat → Int64) (po : Nat → Int64) (hds : Nat → Int32) (kr : Nat → Int32) (kv : Nat → Int32) (kb : Nat → Int32) (a0 : Nat) (a1 : Int32) (a2 : Int32) : r_k_X3_eachInstance :=
  if a2 = (-1) then
    (su, po, hds, kr, kv, kb, gw, hn, kn, b_1, b_2, b_3, a2)
  else
    lE (m_k_X3_mayHold pp pu b_1 b_2 b_3 a2 su po a0 0) (fun t_16 =>
      if t_16 = 0 then
        (su, po, hds, kr, kv, kb, gw, hn, kn, b_1, b_2, b_3, a2)
      else
        lE (m_k_X8_valuesFor pp a0 1) (fun t_25 =>
          lE (m_k_X8_valuesFor pp a0 2) (fun t_32 =>
            lE (m_k_X8_valuesFor pp a0 3) (fun t_39 =>
              m_k_X3_eachInstance_47 pp pu a0 a1 a2 t_25 t_32 t_39 wF 0 su po hds kr kv kb gw hn kn b_1 b_2 b_3))))
def vs_k_X3_eachInstance : List Cond := .code yX3_eachInstance cX3_eachInstance 10 none :: ([.fieldLink RX3 12 "AnswerFold$Grounding" "binding" "LAnswerFold$Binding;", .methodLink RX3 138 yX3_mayHold, .instanceMethod yX3_mayHold, .selects RX3 yX3_mayHold yX3_mayHold, .initialized RX3, .methodLink RX3 142 yX8_valuesFor, .instanceMethod yX8_valuesFor, .selects RX8 yX8_valuesFor yX8_valuesFor, .initialized RX8, .methodLink RX3 154 yX3_takeInstance, .instanceMethod yX3_takeInstance, .selects RX3 yX3_takeInstance yX3_takeInstance] ++ (u_ws RX3 TX3 16 ++ (u_ws RX2 TX2 4 ++ (vs_k_X3_mayHold ++ (vs_k_X8_valuesFor ++ (vs_k_X3_takeInstance))))))
theorem iv_k_X3_eachInstance_X2 : ∀ w ∈ u_ws RX2 TX2 4, w ∈ vs_k_X3_eachInstance := (fun _ h => List.mem_cons_of_mem _ (List.mem_append_right _ (List.mem_append_right _ (List.mem_append_left _ h))))
theorem iv_k_X3_eachInstance_X3 : ∀ w ∈ u_ws RX3 TX3 16, w ∈ vs_k_X3_eachInstance := (fun _ h => List.mem_cons_of_mem _ (List.mem_append_right _ (List.mem_append_left _ h)))
set_option maxRecDepth 20000 in
theorem gv_k_X3_eachInstance_0 : GoodIn vs_k_X3_eachInstance (wsV RX3 138 RX3 yX3_mayHold vs_k_X3_mayHold) := goodIn_app (goodIn_sub (by decide +kernel) (by decide +kernel)) (goodIn_sub (fun _ h => List.mem_cons_of_mem _ (List.mem_append_right _ (List.mem_append_right _ (List.mem_append_right _ (List.mem_append_left _ h))))) (by decide +kernel))
set_option maxRecDepth 20000 in
theorem gv_k_X3_eachInstance_1 : GoodIn vs_k_X3_eachInstance (wsV RX3 142 RX8 yX8_valuesFor vs_k_X8_valuesFor) := goodIn_app (goodIn_sub (by decide +kernel) (by decide +kernel)) (goodIn_sub (fun _ h => List.mem_cons_of_mem _ (List.mem_append_right _ (List.mem_append_right _ (List.mem_append_right _ (List.mem_append_right _ (List.mem_append_left _ h)))))) (by decide +kernel))
set_option maxRecDepth 20000 in
theorem gv_k_X3_eachInstance_2 : GoodIn vs_k_X3_eachInstance (wsV RX3 142 RX8 yX8_valuesFor vs_k_X8_valuesFor) := goodIn_app (goodIn_sub (by decide +kernel) (by decide +kernel)) (goodIn_sub (fun _ h => List.mem_cons_of_mem _ (List.mem_append_right _ (List.mem_append_right _ (List.mem_append_right _ (List.mem_append_right _ (List.mem_append_left _ h)))))) (by decide +kernel))
set_option maxRecDepth 20000 in
theorem gv_k_X3_eachInstance_3 : GoodIn vs_k_X3_eachInstance (wsV RX3 142 RX8 yX8_valuesFor vs_k_X8_valuesFor) := goodIn_app (goodIn_sub (by decide +kernel) (by decide +kernel)) (goodIn_sub (fun _ h => List.mem_cons_of_mem _ (List.mem_append_right _ (List.mem_append_right _ (List.mem_append_right _ (List.mem_append_right _ (List.mem_append_left _ h)))))) (by decide +kernel))
set_option maxRecDepth 20000 in
theorem gv_k_X3_eachInstance_4 : GoodIn vs_k_X3_eachInstance (wsV RX3 138 RX3 yX3_mayHold vs_k_X3_mayHold) := goodIn_app (goodIn_sub (by decide +kernel) (by decide +kernel)) (goodIn_sub (fun _ h => List.mem_cons_of_mem _ (List.mem_append_right _ (List.mem_append_right _ (List.mem_append_right _ (List.mem_append_left _ h))))) (by decide +kernel))
set_option maxRecDepth 20000 in
theorem gv_k_X3_eachInstance_5 : GoodIn vs_k_X3_eachInstance (wsV RX3 138 RX3 yX3_mayHold vs_k_X3_mayHold) := goodIn_app (goodIn_sub (by decide +kernel) (by decide +kernel)) (goodIn_sub (fun _ h => List.mem_cons_of_mem _ (List.mem_append_right _ (List.mem_append_right _ (List.mem_append_right _ (List.mem_append_left _ h))))) (by decide +kernel))
set_option maxRecDepth 20000 in
theorem gv_k_X3_eachInstance_6 : GoodIn vs_k_X3_eachInstance (wsV RX3 138 RX3 yX3_mayHold vs_k_X3_mayHold) := goodIn_app (goodIn_sub (by decide +kernel) (by decide +kernel)) (goodIn_sub (fun _ h => List.mem_cons_of_mem _ (List.mem_append_right _ (List.mem_append_right _ (List.mem_append_right _ (List.mem_append_left _ h))))) (by decide +kernel))
set_option maxRecDepth 20000 in
theorem gv_k_X3_eachInstance_7 : GoodIn vs_k_X3_eachInstance (wsV RX3 154 RX3 yX3_takeInstance vs_k_X3_takeInstance) := goodIn_app (goodIn_sub (by decide +kernel) (by decide +kernel)) (goodIn_sub (fun _ h => List.mem_cons_of_mem _ (List.mem_append_right _ (List.mem_append_right _ (List.mem_append_right _ (List.mem_append_right _ (List.mem_append_right _ (h))))))) (by decide +kernel))
set_option maxHeartbeats 4000000 in
set_option maxRecDepth 100000 in
theorem k_X3_eachInstance (l : Launch) (D : va_G) (ty : Nat → ClassId) (td mi sz : Nat) (pp : pT) (X : Nat → Nat) (hn : Int32) (kn : Int32) (on : Int32) (cu : Int32) (pu : Int32) (gw : Int32) (b_1 : Int32) (b_2 : Int32) (b_3 : Int32) (b_p : Int32) (su : Nat → Int64) (po : Nat → Int64) (hds : Nat → Int32) (kr : Nat → Int32) (kv : Nat → Int32) (kb : Nat → Int32) (a0 : Nat) (a1 : Int32) (a2 : Int32) (hok : pOK pp) (hm_a0 : a0 ∈ pRA pp) (TT : r_k_X3_eachInstance) (hTT : TT = m_k_X3_eachInstance pp hn kn pu gw b_1 b_2 b_3 su po hds kr kv kb a0 a1 a2) : Met l yX3_eachInstance vs_k_X3_eachInstance { frames := 4, cells := 0, slots := 0, locals := 97 } (va_Pc [.ref (X 8), .ref a0, .int a1, .int a2] (wq_P D ty td mi ((wW_k_X3_eachInstance ty X hn kn on cu pu gw b_1 b_2 b_3 b_p su po hds kr kv kb) ++ pw ty pp) sz)) (va_Qv (fun u : va_W => ((u = ((wW_k_X3_eachInstance ty X TT.2.2.2.2.2.2.2.1 TT.2.2.2.2.2.2.2.2.1 on cu pu TT.2.2.2.2.2.2.1 TT.2.2.2.2.2.2.2.2.2.1 TT.2.2.2.2.2.2.2.2.2.2.1 TT.2.2.2.2.2.2.2.2.2.2.2.1 TT.2.2.2.2.2.2.2.2.2.2.2.2 TT.1 TT.2.1 TT.2.2.1 TT.2.2.2.1 TT.2.2.2.2.1 TT.2.2.2.2.2.1) ++ pw ty pp)))) (wq_B D (va_A ((wW_k_X3_eachInstance ty X hn kn on cu pu gw b_1 b_2 b_3 b_p su po hds kr kv kb) ++ pw ty pp) sz)) (va_A ((wW_k_X3_eachInstance ty X hn kn on cu pu gw b_1 b_2 b_3 b_p su po hds kr kv kb) ++ pw ty pp) sz)) 0 0 (va_A ((wW_k_X3_eachInstance ty X hn kn on cu pu gw b_1 b_2 b_3 b_p su po hds kr kv kb) ++ pw ty pp) sz) := by
  refine Met.ofW (cc := cX3_eachInstance) (maxL := 10) (ret := none) (by decide) rfl ?_
  intro p e s m args below meth c s₁ B hml hv
  obtain ⟨rfl, hsz, hP, hK, hD0, hE⟩ := hv
  have hx := B.exec
  have hb := B.bytes
  have hr := B.returns
  have hts := atoms_spec (ws := vs_k_X3_eachInstance) B.pre
  have hown : s.vm.findClass RX3 = some m.cls := findClass_of_methodNamed B.named
  have hlocks := B.notSynchronized
  subst hsz
  have hD := hD0.self (sz := s.heap.size)
  generalize hAe : va_A ((wW_k_X3_eachInstance ty X hn kn on cu pu gw b_1 b_2 b_3 b_p su po hds kr kv kb) ++ pw ty pp) s.heap.size = A at hD hE ⊢
  have hA : ∀ q : Nat, s.heap.size ≤ q → A q := fun q h => by rw [← hAe]; exact Or.inr h
  have hS : va_S A s.heap s.heap [] := va_S.rf
  have hP : va_P D vwCl ((wW_k_X3_eachInstance ty X hn kn on cu pu gw b_1 b_2 b_3 b_p su po hds kr kv kb) ++ pw ty pp) s.heap := hP
  have hl := lv_entry ([.ref (X 8), .ref a0, .int a1, .int a2]) (n := 10) (Nat.le_of_ble_eq_true rfl)
  rw [lg_entry_eq]
  generalize (lg_sl ([.ref (X 8), .ref a0, .int a1, .int a2]) ++ List.replicate (10 - (lg_sl ([.ref (X 8), .ref a0, .int a1, .int a2])).length) Slot.unset).toArray = ls at hl ⊢
  have hl : lv_has ls 10 [(0, .ref (X 8)), (1, .ref a0), (2, .int a1), (3, .int a2)] := hl
  have END : ∀ (e0 : Nat → Int64) (e1 : Nat → Int64) (e2 : Nat → Int32) (e3 : Nat → Int32) (e4 : Nat → Int32) (e5 : Nat → Int32) (e6 : Int32) (e7 : Int32) (e8 : Int32) (e9 : Int32) (e10 : Int32) (e11 : Int32) (e12 : Int32), TT = (e0, e1, e2, e3, e4, e5, e6, e7, e8, e9, e10, e11, e12) → ∀ (H : Heap) (locs : List Loc), va_P D vwCl ((wW_k_X3_eachInstance ty X e7 e8 on cu pu e6 e9 e10 e11 e12 e0 e1 e2 e3 e4 e5) ++ pw ty pp) H → va_D A ((wW_k_X3_eachInstance ty X e7 e8 on cu pu e6 e9 e10 e11 e12 e0 e1 e2 e3 e4 e5) ++ pw ty pp) → va_S A s.heap H locs → ∀ (ls : Array Slot) (pc : Nat), decode cX3_eachInstance pc = .ok (.return_, 1) → W p l e (headSpec vs_k_X3_eachInstance { frames := 4, cells := 0, slots := 0, locals := 97 }).room s m ([.ref (X 8), .ref a0, .int a1, .int a2] : List Value).toArray below meth c H locs 0 0 (MQ below (va_Qv (fun u : va_W => ((u = ((wW_k_X3_eachInstance ty X TT.2.2.2.2.2.2.2.1 TT.2.2.2.2.2.2.2.2.1 on cu pu TT.2.2.2.2.2.2.1 TT.2.2.2.2.2.2.2.2.2.1 TT.2.2.2.2.2.2.2.2.2.2.1 TT.2.2.2.2.2.2.2.2.2.2.2.1 TT.2.2.2.2.2.2.2.2.2.2.2.2 TT.1 TT.2.1 TT.2.2.1 TT.2.2.2.1 TT.2.2.2.2.1 TT.2.2.2.2.2.1) ++ pw ty pp)))) (wq_B D A) A) ([.ref (X 8), .ref a0, .int a1, .int a2] : List Value).toArray s 0 0 A) (F0 m pc ls []) := by
    intro e0 e1 e2 e3 e4 e5 e6 e7 e8 e9 e10 e11 e12 hT H locs hP hD hS ls pc hd
    have hM : TT = (e0, e1, e2, e3, e4, e5, e6, e7, e8, e9, e10, e11, e12) := hT
    exact W.vret hx hb hr (fun t ht hW => ⟨⟨((wW_k_X3_eachInstance ty X e7 e8 on cu pu e6 e9 e10 e11 e12 e0 e1 e2 e3 e4 e5) ++ pw ty pp), rfl, (by rw [hM]), wq_B.of ht hP hD⟩, hS.F ht⟩) hS.2.2 hd
  have hT := hTT
  rw [m_k_X3_eachInstance] at hT
  refine lv_aload_n hx hb dX3_eachInstance_0 rfl (lv_at hl 0 rfl) ?_
  refine va_get (D := D) (ci := 5) (v := .ref (X 9)) (C := RX3) (T := TX3) (N := 16) hx hb hts iv_k_X3_eachInstance_X3 hown hK hP 0 rfl rfl 1 (by decide) (hts (.fieldLink RX3 12 "AnswerFold$Grounding" "binding" "LAnswerFold$Binding;") (by decide +kernel)) (fun _ h9 => h9) rfl dX3_eachInstance_1 ?_
  refine lv_iload_n hx hb dX3_eachInstance_4 rfl (lv_at hl 3 rfl) ?_
  refine va_putN (D := D) (ci := 4) (v := .int a2) (ty := tyX2 3) (C := RX2) (T := TX2) (N := 4) hx hb hts iv_k_X3_eachInstance_X2 tyX2 tyX2_ok nmX2 hown hK hP hD hS 1 rfl rfl 3 (by decide) (hE.at (.fieldLinkNest "AnswerFold$Grounding" 135 "AnswerFold$Binding" "parameter" "I" "AnswerFold") (by decide +kernel)) (fun _ h9 => h9) rfl (by decide +kernel) rfl rfl (Nat.le_of_ble_eq_true rfl) dX3_eachInstance_5 (fun H locs hP hD hS => ?_)
  have hP : va_P D vwCl ((wW_k_X3_eachInstance ty X hn kn on cu pu gw b_1 b_2 b_3 a2 su po hds kr kv kb) ++ pw ty pp) H := hP
  have hD : va_D A ((wW_k_X3_eachInstance ty X hn kn on cu pu gw b_1 b_2 b_3 a2 su po hds kr kv kb) ++ pw ty pp) := hD
  refine lv_iload_n hx hb dX3_eachInstance_8 rfl (lv_at hl 3 rfl) ?_
  refine lv_iconst (v := (-1)) hx hb dX3_eachInstance_9 (by decide) ?_
  refine lv_icmp_eq (tgt := 22) hx hb dX3_eachInstance_10 (by decide) (fun c_1 => ?_) (fun c_1 => ?_)
  · rw [if_pos c_1] at hT
    exact END su po hds kr kv kb gw hn kn b_1 b_2 b_3 a2 hT _ _ hP hD hS _ _ dX3_eachInstance_22
  · rw [if_neg c_1] at hT
    refine lv_aload_n hx hb dX3_eachInstance_13 rfl (lv_at hl 0 rfl) ?_
    refine lv_aload_n hx hb dX3_eachInstance_14 rfl (lv_at hl 1 rfl) ?_
    refine lv_iconst (v := 0) hx hb dX3_eachInstance_15 (by decide) ?_
    obtain ⟨t_16, ht_16⟩ : ∃ t, t = m_k_X3_mayHold pp pu b_1 b_2 b_3 a2 su po a0 0 := ⟨_, rfl⟩
    rw [lE_eq ht_16] at hT
    refine wq_iPW (wc := (wW_k_X3_mayHold ty X hn kn on cu pu gw b_1 b_2 b_3 a2 su po)) (pl := pw ty pp) (ux := (wW_k_X3_mayHold ty X hn kn on cu pu gw b_1 b_2 b_3 a2 su po)) (va_runV (As := [.ref a0, .int 0]) (rest := []) ⟨hx, hb, hml, hown, hts⟩ (k_X3_mayHold l D ty td mi H.size pp X hn kn on cu pu gw b_1 b_2 b_3 a2 su po a0 0 hok hm_a0 t_16 ht_16) (cwV 2 hts gv_k_X3_eachInstance_0 rfl rfl rfl (by decide +kernel) ⟨(Nat.le_of_ble_eq_true rfl), (Nat.le_of_ble_eq_true rfl)⟩) (wm_V (wm_preSP hP hD hK hE hS hA [true, true, true, true, true, true] rfl) (va_recv (q0 := 0) (ci := 5) hK hP rfl rfl)) rfl rfl hl.1 rfl (lv_room (Nat.le_of_ble_eq_true rfl)) dX3_eachInstance_16 ⟨(Nat.le_of_ble_eq_true rfl), (Nat.le_of_ble_eq_true rfl)⟩) hS hA hP hD [true, true, true, true, true, true] rfl rfl (fun _ _ h => h.2.2) (fun r H locs hw hP hD hS => ?_)
    obtain ⟨hr0, c_4, -⟩ := hw
    subst r
    have hP : va_P D vwCl ((wW_k_X3_eachInstance ty X hn kn on cu pu gw b_1 b_2 b_3 a2 su po hds kr kv kb) ++ pw ty pp) H := hP
    have hD : va_D A ((wW_k_X3_eachInstance ty X hn kn on cu pu gw b_1 b_2 b_3 a2 su po hds kr kv kb) ++ pw ty pp) := hD
    refine W.widen (k := 0) (n := 0) (Nat.le_of_ble_eq_true rfl) (Nat.le_of_ble_eq_true rfl) ?_
    refine lv_if_ne (tgt := 23) hx hb dX3_eachInstance_19 (by decide) (fun c_5 => ?_) (fun c_5 => ?_)
    · rw [if_neg c_5] at hT
      refine lv_aload_n hx hb dX3_eachInstance_23 rfl (lv_at hl 1 rfl) ?_
      refine lv_iconst (v := 1) hx hb dX3_eachInstance_24 (by decide) ?_
      obtain ⟨t_25, ht_25⟩ : ∃ t, t = m_k_X8_valuesFor pp a0 1 := ⟨_, rfl⟩
      rw [lE_eq ht_25] at hT
      obtain ⟨k_6, hk_6⟩ := List.getElem?_of_mem (pw_rule (ty := ty) (p := pp) (L := [((X 8), .inr (5, [.ref (X 1), .ref (X 9), .ref (X 10), .ref (X 12), .ref (X 14), .int hn, .ref (X 15), .ref (X 16), .ref (X 17), .int kn, .ref (X 18), .ref (X 19), .int on, .int cu, .int pu, .int gw])), ((X 9), .inr (4, [.int b_1, .int b_2, .int b_3, .int a2])), ((X 10), .inr (3, [.ref (X 11)])), ((X 11), .inl (ty 1, 6, .inr (.inl su))), ((X 12), .inr (3, [.ref (X 13)])), ((X 13), .inl (ty 1, 6, .inr (.inl po))), ((X 14), .inl (ty 0, 16, .inl hds)), ((X 15), .inl (ty 0, 300, .inl kr)), ((X 16), .inl (ty 0, 300, .inl kv)), ((X 17), .inl (ty 0, 20, .inl kb))]) hm_a0)
      refine wq_iPW (wc := []) (pl := pw ty pp) (ux := []) (va_runV (As := [.int 1]) (rest := []) ⟨hx, hb, hml, hown, hts⟩ (k_X8_valuesFor l D ty td mi H.size pp a0 1 hok hm_a0 t_25 ht_25) (cwV 1 hts gv_k_X3_eachInstance_1 rfl rfl rfl (by decide +kernel) ⟨(Nat.le_of_ble_eq_true rfl), (Nat.le_of_ble_eq_true rfl)⟩) (wm_V (wm_preSP hP hD hK hE hS hA [] rfl) (va_recv (q0 := k_6) (ci := 10) hK hP rfl hk_6)) rfl rfl hl.1 rfl (lv_room (Nat.le_of_ble_eq_true rfl)) dX3_eachInstance_25 ⟨(Nat.le_of_ble_eq_true rfl), (Nat.le_of_ble_eq_true rfl)⟩) hS hA hP hD [] rfl rfl (fun _ _ h => h.2) (fun r H locs hw hP hD hS => ?_)
      obtain ⟨hr0, -⟩ := hw
      subst r
      have hP : va_P D vwCl ((wW_k_X3_eachInstance ty X hn kn on cu pu gw b_1 b_2 b_3 a2 su po hds kr kv kb) ++ pw ty pp) H := hP
      have hD : va_D A ((wW_k_X3_eachInstance ty X hn kn on cu pu gw b_1 b_2 b_3 a2 su po hds kr kv kb) ++ pw ty pp) := hD
      refine W.widen (k := 0) (n := 0) (Nat.le_of_ble_eq_true rfl) (Nat.le_of_ble_eq_true rfl) ?_
      refine lv_istore (lv' := [(4, .int t_25), (0, .ref (X 8)), (1, .ref a0), (2, .int a1), (3, .int a2)]) hx hb dX3_eachInstance_28 hl (by decide) rfl (fun ls hl => ?_)
      refine lv_aload_n hx hb dX3_eachInstance_30 rfl (lv_at hl 2 rfl) ?_
      refine lv_iconst (v := 2) hx hb dX3_eachInstance_31 (by decide) ?_
      obtain ⟨t_32, ht_32⟩ : ∃ t, t = m_k_X8_valuesFor pp a0 2 := ⟨_, rfl⟩
      rw [lE_eq ht_32] at hT
      obtain ⟨k_9, hk_9⟩ := List.getElem?_of_mem (pw_rule (ty := ty) (p := pp) (L := [((X 8), .inr (5, [.ref (X 1), .ref (X 9), .ref (X 10), .ref (X 12), .ref (X 14), .int hn, .ref (X 15), .ref (X 16), .ref (X 17), .int kn, .ref (X 18), .ref (X 19), .int on, .int cu, .int pu, .int gw])), ((X 9), .inr (4, [.int b_1, .int b_2, .int b_3, .int a2])), ((X 10), .inr (3, [.ref (X 11)])), ((X 11), .inl (ty 1, 6, .inr (.inl su))), ((X 12), .inr (3, [.ref (X 13)])), ((X 13), .inl (ty 1, 6, .inr (.inl po))), ((X 14), .inl (ty 0, 16, .inl hds)), ((X 15), .inl (ty 0, 300, .inl kr)), ((X 16), .inl (ty 0, 300, .inl kv)), ((X 17), .inl (ty 0, 20, .inl kb))]) hm_a0)
      refine wq_iPW (wc := []) (pl := pw ty pp) (ux := []) (va_runV (As := [.int 2]) (rest := []) ⟨hx, hb, hml, hown, hts⟩ (k_X8_valuesFor l D ty td mi H.size pp a0 2 hok hm_a0 t_32 ht_32) (cwV 1 hts gv_k_X3_eachInstance_2 rfl rfl rfl (by decide +kernel) ⟨(Nat.le_of_ble_eq_true rfl), (Nat.le_of_ble_eq_true rfl)⟩) (wm_V (wm_preSP hP hD hK hE hS hA [] rfl) (va_recv (q0 := k_9) (ci := 10) hK hP rfl hk_9)) rfl rfl hl.1 rfl (lv_room (Nat.le_of_ble_eq_true rfl)) dX3_eachInstance_32 ⟨(Nat.le_of_ble_eq_true rfl), (Nat.le_of_ble_eq_true rfl)⟩) hS hA hP hD [] rfl rfl (fun _ _ h => h.2) (fun r H locs hw hP hD hS => ?_)
      obtain ⟨hr0, -⟩ := hw
      subst r
      have hP : va_P D vwCl ((wW_k_X3_eachInstance ty X hn kn on cu pu gw b_1 b_2 b_3 a2 su po hds kr kv kb) ++ pw ty pp) H := hP
      have hD : va_D A ((wW_k_X3_eachInstance ty X hn kn on cu pu gw b_1 b_2 b_3 a2 su po hds kr kv kb) ++ pw ty pp) := hD
      refine W.widen (k := 0) (n := 0) (Nat.le_of_ble_eq_true rfl) (Nat.le_of_ble_eq_true rfl) ?_
      refine lv_istore (lv' := [(5, .int t_32), (4, .int t_25), (0, .ref (X 8)), (1, .ref a0), (2, .int a1), (3, .int a2)]) hx hb dX3_eachInstance_35 hl (by decide) rfl (fun ls hl => ?_)
      refine lv_aload_n hx hb dX3_eachInstance_37 rfl (lv_at hl 3 rfl) ?_
      refine lv_iconst (v := 3) hx hb dX3_eachInstance_38 (by decide) ?_
      obtain ⟨t_39, ht_39⟩ : ∃ t, t = m_k_X8_valuesFor pp a0 3 := ⟨_, rfl⟩
      rw [lE_eq ht_39] at hT
      obtain ⟨k_12, hk_12⟩ := List.getElem?_of_mem (pw_rule (ty := ty) (p := pp) (L := [((X 8), .inr (5, [.ref (X 1), .ref (X 9), .ref (X 10), .ref (X 12), .ref (X 14), .int hn, .ref (X 15), .ref (X 16), .ref (X 17), .int kn, .ref (X 18), .ref (X 19), .int on, .int cu, .int pu, .int gw])), ((X 9), .inr (4, [.int b_1, .int b_2, .int b_3, .int a2])), ((X 10), .inr (3, [.ref (X 11)])), ((X 11), .inl (ty 1, 6, .inr (.inl su))), ((X 12), .inr (3, [.ref (X 13)])), ((X 13), .inl (ty 1, 6, .inr (.inl po))), ((X 14), .inl (ty 0, 16, .inl hds)), ((X 15), .inl (ty 0, 300, .inl kr)), ((X 16), .inl (ty 0, 300, .inl kv)), ((X 17), .inl (ty 0, 20, .inl kb))]) hm_a0)
      refine wq_iPW (wc := []) (pl := pw ty pp) (ux := []) (va_runV (As := [.int 3]) (rest := []) ⟨hx, hb, hml, hown, hts⟩ (k_X8_valuesFor l D ty td mi H.size pp a0 3 hok hm_a0 t_39 ht_39) (cwV 1 hts gv_k_X3_eachInstance_3 rfl rfl rfl (by decide +kernel) ⟨(Nat.le_of_ble_eq_true rfl), (Nat.le_of_ble_eq_true rfl)⟩) (wm_V (wm_preSP hP hD hK hE hS hA [] rfl) (va_recv (q0 := k_12) (ci := 10) hK hP rfl hk_12)) rfl rfl hl.1 rfl (lv_room (Nat.le_of_ble_eq_true rfl)) dX3_eachInstance_39 ⟨(Nat.le_of_ble_eq_true rfl), (Nat.le_of_ble_eq_true rfl)⟩) hS hA hP hD [] rfl rfl (fun _ _ h => h.2) (fun r H locs hw hP hD hS => ?_)
      obtain ⟨hr0, -⟩ := hw
      subst r
      have hP : va_P D vwCl ((wW_k_X3_eachInstance ty X hn kn on cu pu gw b_1 b_2 b_3 a2 su po hds kr kv kb) ++ pw ty pp) H := hP
      have hD : va_D A ((wW_k_X3_eachInstance ty X hn kn on cu pu gw b_1 b_2 b_3 a2 su po hds kr kv kb) ++ pw ty pp) := hD
      refine W.widen (k := 0) (n := 0) (Nat.le_of_ble_eq_true rfl) (Nat.le_of_ble_eq_true rfl) ?_
      refine lv_istore (lv' := [(6, .int t_39), (5, .int t_32), (4, .int t_25), (0, .ref (X 8)), (1, .ref a0), (2, .int a1), (3, .int a2)]) hx hb dX3_eachInstance_42 hl (by decide) rfl (fun ls hl => ?_)
      refine lv_iconst (v := 0) hx hb dX3_eachInstance_44 (by decide) ?_
      refine lv_istore (lv' := [(7, .int 0), (6, .int t_39), (5, .int t_32), (4, .int t_25), (0, .ref (X 8)), (1, .ref a0), (2, .int a1), (3, .int a2)]) hx hb dX3_eachInstance_45 hl (by decide) rfl (fun ls hl => ?_)
      have L_47 : ∀ (n_47 : Nat) (v7_47 : Int32) (x11_f_47 : Nat → Int64) (x13_f_47 : Nat → Int64) (x14_f_47 : Nat → Int32) (x15_f_47 : Nat → Int32) (x16_f_47 : Nat → Int32) (x17_f_47 : Nat → Int32) (x8_15_47 : Int32) (x8_5_47 : Int32) (x8_9_47 : Int32) (x9_0_47 : Int32) (x9_1_47 : Int32) (x9_2_47 : Int32), (2147483648 - v7_47.toInt).toNat < n_47 → TT = m_k_X3_eachInstance_47 pp pu a0 a1 a2 t_25 t_32 t_39 n_47 v7_47 x11_f_47 x13_f_47 x14_f_47 x15_f_47 x16_f_47 x17_f_47 x8_15_47 x8_5_47 x8_9_47 x9_0_47 x9_1_47 x9_2_47 → 0 ≤ v7_47.toInt → ∀ (H : Heap) (locs : List Loc), va_P D vwCl ((wW_k_X3_eachInstance ty X x8_5_47 x8_9_47 on cu pu x8_15_47 x9_0_47 x9_1_47 x9_2_47 a2 x11_f_47 x13_f_47 x14_f_47 x15_f_47 x16_f_47 x17_f_47) ++ pw ty pp) H → va_D A ((wW_k_X3_eachInstance ty X x8_5_47 x8_9_47 on cu pu x8_15_47 x9_0_47 x9_1_47 x9_2_47 a2 x11_f_47 x13_f_47 x14_f_47 x15_f_47 x16_f_47 x17_f_47) ++ pw ty pp) → va_S A s.heap H locs → ∀ ls : Array Slot, lv_has ls 10 [(0, .ref (X 8)), (1, .ref a0), (2, .int a1), (4, .int t_25), (5, .int t_32), (6, .int t_39), (7, .int v7_47)] → W p l e (headSpec vs_k_X3_eachInstance { frames := 4, cells := 0, slots := 0, locals := 97 }).room s m ([.ref (X 8), .ref a0, .int a1, .int a2] : List Value).toArray below meth c H locs 0 0 (MQ below (va_Qv (fun u : va_W => ((u = ((wW_k_X3_eachInstance ty X TT.2.2.2.2.2.2.2.1 TT.2.2.2.2.2.2.2.2.1 on cu pu TT.2.2.2.2.2.2.1 TT.2.2.2.2.2.2.2.2.2.1 TT.2.2.2.2.2.2.2.2.2.2.1 TT.2.2.2.2.2.2.2.2.2.2.2.1 TT.2.2.2.2.2.2.2.2.2.2.2.2 TT.1 TT.2.1 TT.2.2.1 TT.2.2.2.1 TT.2.2.2.2.1 TT.2.2.2.2.2.1) ++ pw ty pp)))) (wq_B D A) A) ([.ref (X 8), .ref a0, .int a1, .int a2] : List Value).toArray s 0 0 A) (F0 m 47 ls []) := by
        intro n_47
        induction n_47 with
        | zero => intro v7_47 x11_f_47 x13_f_47 x14_f_47 x15_f_47 x16_f_47 x17_f_47 x8_15_47 x8_5_47 x8_9_47 x9_0_47 x9_1_47 x9_2_47 hu; exact absurd hu (Nat.not_lt_zero _)
        | succ n_47 ih_47 =>
          intro v7_47 x11_f_47 x13_f_47 x14_f_47 x15_f_47 x16_f_47 x17_f_47 x8_15_47 x8_5_47 x8_9_47 x9_0_47 x9_1_47 x9_2_47 hu_47 hT hn_47 H locs hP hD hS ls hl
          rw [m_k_X3_eachInstance_47_succ, m_k_X3_eachInstance_47s] at hT
          refine lv_iload hx hb dX3_eachInstance_47 (lv_at hl 6 rfl) ?_
          refine lv_iload hx hb dX3_eachInstance_49 (lv_at hl 3 rfl) ?_
          refine lv_icmp_ge (tgt := 158) hx hb dX3_eachInstance_51 (by decide) (fun c_15 => ?_) (fun c_15 => ?_)
          · rw [if_pos c_15] at hT
            exact END x11_f_47 x13_f_47 x14_f_47 x15_f_47 x16_f_47 x17_f_47 x8_15_47 x8_5_47 x8_9_47 x9_0_47 x9_1_47 x9_2_47 a2 hT _ _ hP hD hS _ _ dX3_eachInstance_158
          · rw [if_neg c_15] at hT
            refine lv_aload_n hx hb dX3_eachInstance_54 rfl (lv_at hl 0 rfl) ?_
            refine va_get (D := D) (ci := 5) (v := .ref (X 9)) (C := RX3) (T := TX3) (N := 16) hx hb hts iv_k_X3_eachInstance_X3 hown hK hP 0 rfl rfl 1 (by decide) (hts (.fieldLink RX3 12 "AnswerFold$Grounding" "binding" "LAnswerFold$Binding;") (by decide +kernel)) (fun _ h9 => h9) rfl dX3_eachInstance_55 ?_
            refine lv_iload hx hb dX3_eachInstance_58 (lv_at hl 6 rfl) ?_
            refine va_putN (D := D) (ci := 4) (v := .int v7_47) (ty := tyX2 0) (C := RX2) (T := TX2) (N := 4) hx hb hts iv_k_X3_eachInstance_X2 tyX2 tyX2_ok nmX2 hown hK hP hD hS 1 rfl rfl 0 (by decide) (hE.at (.fieldLinkNest "AnswerFold$Grounding" 145 "AnswerFold$Binding" "first" "I" "AnswerFold") (by decide +kernel)) (fun _ h9 => h9) rfl (by decide +kernel) rfl rfl (Nat.le_of_ble_eq_true rfl) dX3_eachInstance_60 (fun H locs hP hD hS => ?_)
            have hP : va_P D vwCl ((wW_k_X3_eachInstance ty X x8_5_47 x8_9_47 on cu pu x8_15_47 v7_47 x9_1_47 x9_2_47 a2 x11_f_47 x13_f_47 x14_f_47 x15_f_47 x16_f_47 x17_f_47) ++ pw ty pp) H := hP
            have hD : va_D A ((wW_k_X3_eachInstance ty X x8_5_47 x8_9_47 on cu pu x8_15_47 v7_47 x9_1_47 x9_2_47 a2 x11_f_47 x13_f_47 x14_f_47 x15_f_47 x16_f_47 x17_f_47) ++ pw ty pp) := hD
            refine lv_aload_n hx hb dX3_eachInstance_63 rfl (lv_at hl 0 rfl) ?_
            refine lv_aload_n hx hb dX3_eachInstance_64 rfl (lv_at hl 1 rfl) ?_
            refine lv_iconst (v := 1) hx hb dX3_eachInstance_65 (by decide) ?_
            obtain ⟨t_66, ht_66⟩ : ∃ t, t = m_k_X3_mayHold pp pu v7_47 x9_1_47 x9_2_47 a2 x11_f_47 x13_f_47 a0 1 := ⟨_, rfl⟩
            rw [lE_eq ht_66] at hT
            refine wq_iPW (wc := (wW_k_X3_mayHold ty X x8_5_47 x8_9_47 on cu pu x8_15_47 v7_47 x9_1_47 x9_2_47 a2 x11_f_47 x13_f_47)) (pl := pw ty pp) (ux := (wW_k_X3_mayHold ty X x8_5_47 x8_9_47 on cu pu x8_15_47 v7_47 x9_1_47 x9_2_47 a2 x11_f_47 x13_f_47)) (va_runV (As := [.ref a0, .int 1]) (rest := []) ⟨hx, hb, hml, hown, hts⟩ (k_X3_mayHold l D ty td mi H.size pp X x8_5_47 x8_9_47 on cu pu x8_15_47 v7_47 x9_1_47 x9_2_47 a2 x11_f_47 x13_f_47 a0 1 hok hm_a0 t_66 ht_66) (cwV 2 hts gv_k_X3_eachInstance_4 rfl rfl rfl (by decide +kernel) ⟨(Nat.le_of_ble_eq_true rfl), (Nat.le_of_ble_eq_true rfl)⟩) (wm_V (wm_preSP hP hD hK hE hS hA [true, true, true, true, true, true] rfl) (va_recv (q0 := 0) (ci := 5) hK hP rfl rfl)) rfl rfl hl.1 rfl (lv_room (Nat.le_of_ble_eq_true rfl)) dX3_eachInstance_66 ⟨(Nat.le_of_ble_eq_true rfl), (Nat.le_of_ble_eq_true rfl)⟩) hS hA hP hD [true, true, true, true, true, true] rfl rfl (fun _ _ h => h.2.2) (fun r H locs hw hP hD hS => ?_)
            obtain ⟨hr0, c_18, -⟩ := hw
            subst r
            have hP : va_P D vwCl ((wW_k_X3_eachInstance ty X x8_5_47 x8_9_47 on cu pu x8_15_47 v7_47 x9_1_47 x9_2_47 a2 x11_f_47 x13_f_47 x14_f_47 x15_f_47 x16_f_47 x17_f_47) ++ pw ty pp) H := hP
            have hD : va_D A ((wW_k_X3_eachInstance ty X x8_5_47 x8_9_47 on cu pu x8_15_47 v7_47 x9_1_47 x9_2_47 a2 x11_f_47 x13_f_47 x14_f_47 x15_f_47 x16_f_47 x17_f_47) ++ pw ty pp) := hD
            refine W.widen (k := 0) (n := 0) (Nat.le_of_ble_eq_true rfl) (Nat.le_of_ble_eq_true rfl) ?_
            have J_152 : ∀ (x11_f_152 : Nat → Int64) (x13_f_152 : Nat → Int64) (x14_f_152 : Nat → Int32) (x15_f_152 : Nat → Int32) (x16_f_152 : Nat → Int32) (x17_f_152 : Nat → Int32) (x8_15_152 : Int32) (x8_5_152 : Int32) (x8_9_152 : Int32) (x9_1_152 : Int32) (x9_2_152 : Int32), TT = m_k_X3_eachInstance_152 (m_k_X3_eachInstance_47 pp pu a0 a1 a2 t_25 t_32 t_39 n_47) v7_47 x11_f_152 x13_f_152 x14_f_152 x15_f_152 x16_f_152 x17_f_152 x8_15_152 x8_5_152 x8_9_152 x9_1_152 x9_2_152 → ∀ (H : Heap) (locs : List Loc), va_P D vwCl ((wW_k_X3_eachInstance ty X x8_5_152 x8_9_152 on cu pu x8_15_152 v7_47 x9_1_152 x9_2_152 a2 x11_f_152 x13_f_152 x14_f_152 x15_f_152 x16_f_152 x17_f_152) ++ pw ty pp) H → va_D A ((wW_k_X3_eachInstance ty X x8_5_152 x8_9_152 on cu pu x8_15_152 v7_47 x9_1_152 x9_2_152 a2 x11_f_152 x13_f_152 x14_f_152 x15_f_152 x16_f_152 x17_f_152) ++ pw ty pp) → va_S A s.heap H locs → ∀ ls : Array Slot, lv_has ls 10 [(0, .ref (X 8)), (1, .ref a0), (2, .int a1), (4, .int t_25), (5, .int t_32), (6, .int t_39), (7, .int v7_47)] → W p l e (headSpec vs_k_X3_eachInstance { frames := 4, cells := 0, slots := 0, locals := 97 }).room s m ([.ref (X 8), .ref a0, .int a1, .int a2] : List Value).toArray below meth c H locs 0 0 (MQ below (va_Qv (fun u : va_W => ((u = ((wW_k_X3_eachInstance ty X TT.2.2.2.2.2.2.2.1 TT.2.2.2.2.2.2.2.2.1 on cu pu TT.2.2.2.2.2.2.1 TT.2.2.2.2.2.2.2.2.2.1 TT.2.2.2.2.2.2.2.2.2.2.1 TT.2.2.2.2.2.2.2.2.2.2.2.1 TT.2.2.2.2.2.2.2.2.2.2.2.2 TT.1 TT.2.1 TT.2.2.1 TT.2.2.2.1 TT.2.2.2.2.1 TT.2.2.2.2.2.1) ++ pw ty pp)))) (wq_B D A) A) ([.ref (X 8), .ref a0, .int a1, .int a2] : List Value).toArray s 0 0 A) (F0 m 152 ls []) := by
              intro x11_f_152 x13_f_152 x14_f_152 x15_f_152 x16_f_152 x17_f_152 x8_15_152 x8_5_152 x8_9_152 x9_1_152 x9_2_152 hT  H locs hP hD hS ls hl
              rw [m_k_X3_eachInstance_152] at hT
              refine lv_iinc (v := v7_47 + 1) (lv' := [(7, .int (v7_47 + 1)), (0, .ref (X 8)), (1, .ref a0), (2, .int a1), (4, .int t_25), (5, .int t_32), (6, .int t_39)]) hx hb dX3_eachInstance_152 hl (k := 6) rfl (by rfl) (by decide) rfl (fun ls hl => ?_)
              refine lv_goto (tgt := 47) hx hb dX3_eachInstance_155 (by decide) ?_
              exact ih_47 (v7_47 + 1) x11_f_152 x13_f_152 x14_f_152 x15_f_152 x16_f_152 x17_f_152 x8_15_152 x8_5_152 x8_9_152 v7_47 x9_1_152 x9_2_152 (wi_up hu_47 (Int32.not_le.mp c_15)) hT (wi_inc hn_47 (Int32.not_le.mp c_15)) _ _ hP hD hS _ (lv_sub hl [1, 2, 3, 4, 5, 6, 0] rfl)
            refine lv_if_ne (tgt := 75) hx hb dX3_eachInstance_69 (by decide) (fun c_19 => ?_) (fun c_19 => ?_)
            · rw [if_neg c_19] at hT
              refine lv_iconst (v := 0) hx hb dX3_eachInstance_75 (by decide) ?_
              refine lv_istore (lv' := [(8, .int 0), (0, .ref (X 8)), (1, .ref a0), (2, .int a1), (4, .int t_25), (5, .int t_32), (6, .int t_39), (7, .int v7_47)]) hx hb dX3_eachInstance_76 hl (by decide) rfl (fun ls hl => ?_)
              have L_78 : ∀ (n_78 : Nat) (v8_78 : Int32) (x11_f_78 : Nat → Int64) (x13_f_78 : Nat → Int64) (x14_f_78 : Nat → Int32) (x15_f_78 : Nat → Int32) (x16_f_78 : Nat → Int32) (x17_f_78 : Nat → Int32) (x8_15_78 : Int32) (x8_5_78 : Int32) (x8_9_78 : Int32) (x9_1_78 : Int32) (x9_2_78 : Int32), (2147483648 - v8_78.toInt).toNat < n_78 → TT = m_k_X3_eachInstance_78 pp pu a0 a1 a2 (m_k_X3_eachInstance_47 pp pu a0 a1 a2 t_25 t_32 t_39 n_47) t_32 t_39 v7_47 n_78 v8_78 x11_f_78 x13_f_78 x14_f_78 x15_f_78 x16_f_78 x17_f_78 x8_15_78 x8_5_78 x8_9_78 x9_1_78 x9_2_78 → 0 ≤ v8_78.toInt → ∀ (H : Heap) (locs : List Loc), va_P D vwCl ((wW_k_X3_eachInstance ty X x8_5_78 x8_9_78 on cu pu x8_15_78 v7_47 x9_1_78 x9_2_78 a2 x11_f_78 x13_f_78 x14_f_78 x15_f_78 x16_f_78 x17_f_78) ++ pw ty pp) H → va_D A ((wW_k_X3_eachInstance ty X x8_5_78 x8_9_78 on cu pu x8_15_78 v7_47 x9_1_78 x9_2_78 a2 x11_f_78 x13_f_78 x14_f_78 x15_f_78 x16_f_78 x17_f_78) ++ pw ty pp) → va_S A s.heap H locs → ∀ ls : Array Slot, lv_has ls 10 [(0, .ref (X 8)), (1, .ref a0), (2, .int a1), (4, .int t_25), (5, .int t_32), (6, .int t_39), (7, .int v7_47), (8, .int v8_78)] → W p l e (headSpec vs_k_X3_eachInstance { frames := 4, cells := 0, slots := 0, locals := 97 }).room s m ([.ref (X 8), .ref a0, .int a1, .int a2] : List Value).toArray below meth c H locs 0 0 (MQ below (va_Qv (fun u : va_W => ((u = ((wW_k_X3_eachInstance ty X TT.2.2.2.2.2.2.2.1 TT.2.2.2.2.2.2.2.2.1 on cu pu TT.2.2.2.2.2.2.1 TT.2.2.2.2.2.2.2.2.2.1 TT.2.2.2.2.2.2.2.2.2.2.1 TT.2.2.2.2.2.2.2.2.2.2.2.1 TT.2.2.2.2.2.2.2.2.2.2.2.2 TT.1 TT.2.1 TT.2.2.1 TT.2.2.2.1 TT.2.2.2.2.1 TT.2.2.2.2.2.1) ++ pw ty pp)))) (wq_B D A) A) ([.ref (X 8), .ref a0, .int a1, .int a2] : List Value).toArray s 0 0 A) (F0 m 78 ls []) := by
                intro n_78
                induction n_78 with
                | zero => intro v8_78 x11_f_78 x13_f_78 x14_f_78 x15_f_78 x16_f_78 x17_f_78 x8_15_78 x8_5_78 x8_9_78 x9_1_78 x9_2_78 hu; exact absurd hu (Nat.not_lt_zero _)
                | succ n_78 ih_78 =>
                  intro v8_78 x11_f_78 x13_f_78 x14_f_78 x15_f_78 x16_f_78 x17_f_78 x8_15_78 x8_5_78 x8_9_78 x9_1_78 x9_2_78 hu_78 hT hn_78 H locs hP hD hS ls hl
                  rw [m_k_X3_eachInstance_78_succ, m_k_X3_eachInstance_78s] at hT
                  refine lv_iload hx hb dX3_eachInstance_78 (lv_at hl 7 rfl) ?_
                  refine lv_iload hx hb dX3_eachInstance_80 (lv_at hl 4 rfl) ?_
                  refine lv_icmp_ge (tgt := 152) hx hb dX3_eachInstance_82 (by decide) (fun c_20 => ?_) (fun c_20 => ?_)
                  · rw [if_pos c_20] at hT
                    exact J_152 x11_f_78 x13_f_78 x14_f_78 x15_f_78 x16_f_78 x17_f_78 x8_15_78 x8_5_78 x8_9_78 x9_1_78 x9_2_78 hT _ _ hP hD hS _ (lv_sub hl [0, 1, 2, 3, 4, 5, 6] rfl)
                  · rw [if_neg c_20] at hT
                    refine lv_aload_n hx hb dX3_eachInstance_85 rfl (lv_at hl 0 rfl) ?_
                    refine va_get (D := D) (ci := 5) (v := .ref (X 9)) (C := RX3) (T := TX3) (N := 16) hx hb hts iv_k_X3_eachInstance_X3 hown hK hP 0 rfl rfl 1 (by decide) (hts (.fieldLink RX3 12 "AnswerFold$Grounding" "binding" "LAnswerFold$Binding;") (by decide +kernel)) (fun _ h9 => h9) rfl dX3_eachInstance_86 ?_
                    refine lv_iload hx hb dX3_eachInstance_89 (lv_at hl 7 rfl) ?_
                    refine va_putN (D := D) (ci := 4) (v := .int v8_78) (ty := tyX2 1) (C := RX2) (T := TX2) (N := 4) hx hb hts iv_k_X3_eachInstance_X2 tyX2 tyX2_ok nmX2 hown hK hP hD hS 1 rfl rfl 1 (by decide) (hE.at (.fieldLinkNest "AnswerFold$Grounding" 148 "AnswerFold$Binding" "second" "I" "AnswerFold") (by decide +kernel)) (fun _ h9 => h9) rfl (by decide +kernel) rfl rfl (Nat.le_of_ble_eq_true rfl) dX3_eachInstance_91 (fun H locs hP hD hS => ?_)
                    have hP : va_P D vwCl ((wW_k_X3_eachInstance ty X x8_5_78 x8_9_78 on cu pu x8_15_78 v7_47 v8_78 x9_2_78 a2 x11_f_78 x13_f_78 x14_f_78 x15_f_78 x16_f_78 x17_f_78) ++ pw ty pp) H := hP
                    have hD : va_D A ((wW_k_X3_eachInstance ty X x8_5_78 x8_9_78 on cu pu x8_15_78 v7_47 v8_78 x9_2_78 a2 x11_f_78 x13_f_78 x14_f_78 x15_f_78 x16_f_78 x17_f_78) ++ pw ty pp) := hD
                    refine lv_aload_n hx hb dX3_eachInstance_94 rfl (lv_at hl 0 rfl) ?_
                    refine lv_aload_n hx hb dX3_eachInstance_95 rfl (lv_at hl 1 rfl) ?_
                    refine lv_iconst (v := 2) hx hb dX3_eachInstance_96 (by decide) ?_
                    obtain ⟨t_97, ht_97⟩ : ∃ t, t = m_k_X3_mayHold pp pu v7_47 v8_78 x9_2_78 a2 x11_f_78 x13_f_78 a0 2 := ⟨_, rfl⟩
                    rw [lE_eq ht_97] at hT
                    refine wq_iPW (wc := (wW_k_X3_mayHold ty X x8_5_78 x8_9_78 on cu pu x8_15_78 v7_47 v8_78 x9_2_78 a2 x11_f_78 x13_f_78)) (pl := pw ty pp) (ux := (wW_k_X3_mayHold ty X x8_5_78 x8_9_78 on cu pu x8_15_78 v7_47 v8_78 x9_2_78 a2 x11_f_78 x13_f_78)) (va_runV (As := [.ref a0, .int 2]) (rest := []) ⟨hx, hb, hml, hown, hts⟩ (k_X3_mayHold l D ty td mi H.size pp X x8_5_78 x8_9_78 on cu pu x8_15_78 v7_47 v8_78 x9_2_78 a2 x11_f_78 x13_f_78 a0 2 hok hm_a0 t_97 ht_97) (cwV 2 hts gv_k_X3_eachInstance_5 rfl rfl rfl (by decide +kernel) ⟨(Nat.le_of_ble_eq_true rfl), (Nat.le_of_ble_eq_true rfl)⟩) (wm_V (wm_preSP hP hD hK hE hS hA [true, true, true, true, true, true] rfl) (va_recv (q0 := 0) (ci := 5) hK hP rfl rfl)) rfl rfl hl.1 rfl (lv_room (Nat.le_of_ble_eq_true rfl)) dX3_eachInstance_97 ⟨(Nat.le_of_ble_eq_true rfl), (Nat.le_of_ble_eq_true rfl)⟩) hS hA hP hD [true, true, true, true, true, true] rfl rfl (fun _ _ h => h.2.2) (fun r H locs hw hP hD hS => ?_)
                    obtain ⟨hr0, c_23, -⟩ := hw
                    subst r
                    have hP : va_P D vwCl ((wW_k_X3_eachInstance ty X x8_5_78 x8_9_78 on cu pu x8_15_78 v7_47 v8_78 x9_2_78 a2 x11_f_78 x13_f_78 x14_f_78 x15_f_78 x16_f_78 x17_f_78) ++ pw ty pp) H := hP
                    have hD : va_D A ((wW_k_X3_eachInstance ty X x8_5_78 x8_9_78 on cu pu x8_15_78 v7_47 v8_78 x9_2_78 a2 x11_f_78 x13_f_78 x14_f_78 x15_f_78 x16_f_78 x17_f_78) ++ pw ty pp) := hD
                    refine W.widen (k := 0) (n := 0) (Nat.le_of_ble_eq_true rfl) (Nat.le_of_ble_eq_true rfl) ?_
                    have J_146 : ∀ (x11_f_146 : Nat → Int64) (x13_f_146 : Nat → Int64) (x14_f_146 : Nat → Int32) (x15_f_146 : Nat → Int32) (x16_f_146 : Nat → Int32) (x17_f_146 : Nat → Int32) (x8_15_146 : Int32) (x8_5_146 : Int32) (x8_9_146 : Int32) (x9_2_146 : Int32), TT = m_k_X3_eachInstance_146 (m_k_X3_eachInstance_78 pp pu a0 a1 a2 (m_k_X3_eachInstance_47 pp pu a0 a1 a2 t_25 t_32 t_39 n_47) t_32 t_39 v7_47 n_78) v8_78 x11_f_146 x13_f_146 x14_f_146 x15_f_146 x16_f_146 x17_f_146 x8_15_146 x8_5_146 x8_9_146 x9_2_146 → ∀ (H : Heap) (locs : List Loc), va_P D vwCl ((wW_k_X3_eachInstance ty X x8_5_146 x8_9_146 on cu pu x8_15_146 v7_47 v8_78 x9_2_146 a2 x11_f_146 x13_f_146 x14_f_146 x15_f_146 x16_f_146 x17_f_146) ++ pw ty pp) H → va_D A ((wW_k_X3_eachInstance ty X x8_5_146 x8_9_146 on cu pu x8_15_146 v7_47 v8_78 x9_2_146 a2 x11_f_146 x13_f_146 x14_f_146 x15_f_146 x16_f_146 x17_f_146) ++ pw ty pp) → va_S A s.heap H locs → ∀ ls : Array Slot, lv_has ls 10 [(0, .ref (X 8)), (1, .ref a0), (2, .int a1), (4, .int t_25), (5, .int t_32), (6, .int t_39), (7, .int v7_47), (8, .int v8_78)] → W p l e (headSpec vs_k_X3_eachInstance { frames := 4, cells := 0, slots := 0, locals := 97 }).room s m ([.ref (X 8), .ref a0, .int a1, .int a2] : List Value).toArray below meth c H locs 0 0 (MQ below (va_Qv (fun u : va_W => ((u = ((wW_k_X3_eachInstance ty X TT.2.2.2.2.2.2.2.1 TT.2.2.2.2.2.2.2.2.1 on cu pu TT.2.2.2.2.2.2.1 TT.2.2.2.2.2.2.2.2.2.1 TT.2.2.2.2.2.2.2.2.2.2.1 TT.2.2.2.2.2.2.2.2.2.2.2.1 TT.2.2.2.2.2.2.2.2.2.2.2.2 TT.1 TT.2.1 TT.2.2.1 TT.2.2.2.1 TT.2.2.2.2.1 TT.2.2.2.2.2.1) ++ pw ty pp)))) (wq_B D A) A) ([.ref (X 8), .ref a0, .int a1, .int a2] : List Value).toArray s 0 0 A) (F0 m 146 ls []) := by
                      intro x11_f_146 x13_f_146 x14_f_146 x15_f_146 x16_f_146 x17_f_146 x8_15_146 x8_5_146 x8_9_146 x9_2_146 hT  H locs hP hD hS ls hl
                      rw [m_k_X3_eachInstance_146] at hT
                      refine lv_iinc (v := v8_78 + 1) (lv' := [(8, .int (v8_78 + 1)), (0, .ref (X 8)), (1, .ref a0), (2, .int a1), (4, .int t_25), (5, .int t_32), (6, .int t_39), (7, .int v7_47)]) hx hb dX3_eachInstance_146 hl (k := 7) rfl (by rfl) (by decide) rfl (fun ls hl => ?_)
                      refine lv_goto (tgt := 78) hx hb dX3_eachInstance_149 (by decide) ?_
                      exact ih_78 (v8_78 + 1) x11_f_146 x13_f_146 x14_f_146 x15_f_146 x16_f_146 x17_f_146 x8_15_146 x8_5_146 x8_9_146 v8_78 x9_2_146 (wi_up hu_78 (Int32.not_le.mp c_20)) hT (wi_inc hn_78 (Int32.not_le.mp c_20)) _ _ hP hD hS _ (lv_sub hl [1, 2, 3, 4, 5, 6, 7, 0] rfl)
                    refine lv_if_ne (tgt := 106) hx hb dX3_eachInstance_100 (by decide) (fun c_24 => ?_) (fun c_24 => ?_)
                    · rw [if_neg c_24] at hT
                      refine lv_iconst (v := 0) hx hb dX3_eachInstance_106 (by decide) ?_
                      refine lv_istore (lv' := [(9, .int 0), (0, .ref (X 8)), (1, .ref a0), (2, .int a1), (4, .int t_25), (5, .int t_32), (6, .int t_39), (7, .int v7_47), (8, .int v8_78)]) hx hb dX3_eachInstance_107 hl (by decide) rfl (fun ls hl => ?_)
                      have L_109 : ∀ (n_109 : Nat) (v9_109 : Int32) (x11_f_109 : Nat → Int64) (x13_f_109 : Nat → Int64) (x14_f_109 : Nat → Int32) (x15_f_109 : Nat → Int32) (x16_f_109 : Nat → Int32) (x17_f_109 : Nat → Int32) (x8_15_109 : Int32) (x8_5_109 : Int32) (x8_9_109 : Int32) (x9_2_109 : Int32), (2147483648 - v9_109.toInt).toNat < n_109 → TT = m_k_X3_eachInstance_109 pp pu a0 a1 a2 (m_k_X3_eachInstance_78 pp pu a0 a1 a2 (m_k_X3_eachInstance_47 pp pu a0 a1 a2 t_25 t_32 t_39 n_47) t_32 t_39 v7_47 n_78) t_39 v7_47 v8_78 n_109 v9_109 x11_f_109 x13_f_109 x14_f_109 x15_f_109 x16_f_109 x17_f_109 x8_15_109 x8_5_109 x8_9_109 x9_2_109 → 0 ≤ v9_109.toInt → ∀ (H : Heap) (locs : List Loc), va_P D vwCl ((wW_k_X3_eachInstance ty X x8_5_109 x8_9_109 on cu pu x8_15_109 v7_47 v8_78 x9_2_109 a2 x11_f_109 x13_f_109 x14_f_109 x15_f_109 x16_f_109 x17_f_109) ++ pw ty pp) H → va_D A ((wW_k_X3_eachInstance ty X x8_5_109 x8_9_109 on cu pu x8_15_109 v7_47 v8_78 x9_2_109 a2 x11_f_109 x13_f_109 x14_f_109 x15_f_109 x16_f_109 x17_f_109) ++ pw ty pp) → va_S A s.heap H locs → ∀ ls : Array Slot, lv_has ls 10 [(0, .ref (X 8)), (1, .ref a0), (2, .int a1), (4, .int t_25), (5, .int t_32), (6, .int t_39), (7, .int v7_47), (8, .int v8_78), (9, .int v9_109)] → W p l e (headSpec vs_k_X3_eachInstance { frames := 4, cells := 0, slots := 0, locals := 97 }).room s m ([.ref (X 8), .ref a0, .int a1, .int a2] : List Value).toArray below meth c H locs 0 0 (MQ below (va_Qv (fun u : va_W => ((u = ((wW_k_X3_eachInstance ty X TT.2.2.2.2.2.2.2.1 TT.2.2.2.2.2.2.2.2.1 on cu pu TT.2.2.2.2.2.2.1 TT.2.2.2.2.2.2.2.2.2.1 TT.2.2.2.2.2.2.2.2.2.2.1 TT.2.2.2.2.2.2.2.2.2.2.2.1 TT.2.2.2.2.2.2.2.2.2.2.2.2 TT.1 TT.2.1 TT.2.2.1 TT.2.2.2.1 TT.2.2.2.2.1 TT.2.2.2.2.2.1) ++ pw ty pp)))) (wq_B D A) A) ([.ref (X 8), .ref a0, .int a1, .int a2] : List Value).toArray s 0 0 A) (F0 m 109 ls []) := by
                        intro n_109
                        induction n_109 with
                        | zero => intro v9_109 x11_f_109 x13_f_109 x14_f_109 x15_f_109 x16_f_109 x17_f_109 x8_15_109 x8_5_109 x8_9_109 x9_2_109 hu; exact absurd hu (Nat.not_lt_zero _)
                        | succ n_109 ih_109 =>
                          intro v9_109 x11_f_109 x13_f_109 x14_f_109 x15_f_109 x16_f_109 x17_f_109 x8_15_109 x8_5_109 x8_9_109 x9_2_109 hu_109 hT hn_109 H locs hP hD hS ls hl
                          rw [m_k_X3_eachInstance_109_succ, m_k_X3_eachInstance_109s] at hT
                          refine lv_iload hx hb dX3_eachInstance_109 (lv_at hl 8 rfl) ?_
                          refine lv_iload hx hb dX3_eachInstance_111 (lv_at hl 5 rfl) ?_
                          refine lv_icmp_ge (tgt := 146) hx hb dX3_eachInstance_113 (by decide) (fun c_25 => ?_) (fun c_25 => ?_)
                          · rw [if_pos c_25] at hT
                            exact J_146 x11_f_109 x13_f_109 x14_f_109 x15_f_109 x16_f_109 x17_f_109 x8_15_109 x8_5_109 x8_9_109 x9_2_109 hT _ _ hP hD hS _ (lv_sub hl [0, 1, 2, 3, 4, 5, 6, 7] rfl)
                          · rw [if_neg c_25] at hT
                            refine lv_aload_n hx hb dX3_eachInstance_116 rfl (lv_at hl 0 rfl) ?_
                            refine va_get (D := D) (ci := 5) (v := .ref (X 9)) (C := RX3) (T := TX3) (N := 16) hx hb hts iv_k_X3_eachInstance_X3 hown hK hP 0 rfl rfl 1 (by decide) (hts (.fieldLink RX3 12 "AnswerFold$Grounding" "binding" "LAnswerFold$Binding;") (by decide +kernel)) (fun _ h9 => h9) rfl dX3_eachInstance_117 ?_
                            refine lv_iload hx hb dX3_eachInstance_120 (lv_at hl 8 rfl) ?_
                            refine va_putN (D := D) (ci := 4) (v := .int v9_109) (ty := tyX2 2) (C := RX2) (T := TX2) (N := 4) hx hb hts iv_k_X3_eachInstance_X2 tyX2 tyX2_ok nmX2 hown hK hP hD hS 1 rfl rfl 2 (by decide) (hE.at (.fieldLinkNest "AnswerFold$Grounding" 151 "AnswerFold$Binding" "third" "I" "AnswerFold") (by decide +kernel)) (fun _ h9 => h9) rfl (by decide +kernel) rfl rfl (Nat.le_of_ble_eq_true rfl) dX3_eachInstance_122 (fun H locs hP hD hS => ?_)
                            have hP : va_P D vwCl ((wW_k_X3_eachInstance ty X x8_5_109 x8_9_109 on cu pu x8_15_109 v7_47 v8_78 v9_109 a2 x11_f_109 x13_f_109 x14_f_109 x15_f_109 x16_f_109 x17_f_109) ++ pw ty pp) H := hP
                            have hD : va_D A ((wW_k_X3_eachInstance ty X x8_5_109 x8_9_109 on cu pu x8_15_109 v7_47 v8_78 v9_109 a2 x11_f_109 x13_f_109 x14_f_109 x15_f_109 x16_f_109 x17_f_109) ++ pw ty pp) := hD
                            refine lv_aload_n hx hb dX3_eachInstance_125 rfl (lv_at hl 0 rfl) ?_
                            refine lv_aload_n hx hb dX3_eachInstance_126 rfl (lv_at hl 1 rfl) ?_
                            refine lv_iconst (v := 3) hx hb dX3_eachInstance_127 (by decide) ?_
                            obtain ⟨t_128, ht_128⟩ : ∃ t, t = m_k_X3_mayHold pp pu v7_47 v8_78 v9_109 a2 x11_f_109 x13_f_109 a0 3 := ⟨_, rfl⟩
                            rw [lE_eq ht_128] at hT
                            refine wq_iPW (wc := (wW_k_X3_mayHold ty X x8_5_109 x8_9_109 on cu pu x8_15_109 v7_47 v8_78 v9_109 a2 x11_f_109 x13_f_109)) (pl := pw ty pp) (ux := (wW_k_X3_mayHold ty X x8_5_109 x8_9_109 on cu pu x8_15_109 v7_47 v8_78 v9_109 a2 x11_f_109 x13_f_109)) (va_runV (As := [.ref a0, .int 3]) (rest := []) ⟨hx, hb, hml, hown, hts⟩ (k_X3_mayHold l D ty td mi H.size pp X x8_5_109 x8_9_109 on cu pu x8_15_109 v7_47 v8_78 v9_109 a2 x11_f_109 x13_f_109 a0 3 hok hm_a0 t_128 ht_128) (cwV 2 hts gv_k_X3_eachInstance_6 rfl rfl rfl (by decide +kernel) ⟨(Nat.le_of_ble_eq_true rfl), (Nat.le_of_ble_eq_true rfl)⟩) (wm_V (wm_preSP hP hD hK hE hS hA [true, true, true, true, true, true] rfl) (va_recv (q0 := 0) (ci := 5) hK hP rfl rfl)) rfl rfl hl.1 rfl (lv_room (Nat.le_of_ble_eq_true rfl)) dX3_eachInstance_128 ⟨(Nat.le_of_ble_eq_true rfl), (Nat.le_of_ble_eq_true rfl)⟩) hS hA hP hD [true, true, true, true, true, true] rfl rfl (fun _ _ h => h.2.2) (fun r H locs hw hP hD hS => ?_)
                            obtain ⟨hr0, c_28, -⟩ := hw
                            subst r
                            have hP : va_P D vwCl ((wW_k_X3_eachInstance ty X x8_5_109 x8_9_109 on cu pu x8_15_109 v7_47 v8_78 v9_109 a2 x11_f_109 x13_f_109 x14_f_109 x15_f_109 x16_f_109 x17_f_109) ++ pw ty pp) H := hP
                            have hD : va_D A ((wW_k_X3_eachInstance ty X x8_5_109 x8_9_109 on cu pu x8_15_109 v7_47 v8_78 v9_109 a2 x11_f_109 x13_f_109 x14_f_109 x15_f_109 x16_f_109 x17_f_109) ++ pw ty pp) := hD
                            refine W.widen (k := 0) (n := 0) (Nat.le_of_ble_eq_true rfl) (Nat.le_of_ble_eq_true rfl) ?_
                            have J_140 : ∀ (x11_f_140 : Nat → Int64) (x13_f_140 : Nat → Int64) (x14_f_140 : Nat → Int32) (x15_f_140 : Nat → Int32) (x16_f_140 : Nat → Int32) (x17_f_140 : Nat → Int32) (x8_15_140 : Int32) (x8_5_140 : Int32) (x8_9_140 : Int32) (x9_2_140 : Int32), TT = m_k_X3_eachInstance_140 (m_k_X3_eachInstance_109 pp pu a0 a1 a2 (m_k_X3_eachInstance_78 pp pu a0 a1 a2 (m_k_X3_eachInstance_47 pp pu a0 a1 a2 t_25 t_32 t_39 n_47) t_32 t_39 v7_47 n_78) t_39 v7_47 v8_78 n_109) v9_109 x11_f_140 x13_f_140 x14_f_140 x15_f_140 x16_f_140 x17_f_140 x8_15_140 x8_5_140 x8_9_140 x9_2_140 → ∀ (H : Heap) (locs : List Loc), va_P D vwCl ((wW_k_X3_eachInstance ty X x8_5_140 x8_9_140 on cu pu x8_15_140 v7_47 v8_78 x9_2_140 a2 x11_f_140 x13_f_140 x14_f_140 x15_f_140 x16_f_140 x17_f_140) ++ pw ty pp) H → va_D A ((wW_k_X3_eachInstance ty X x8_5_140 x8_9_140 on cu pu x8_15_140 v7_47 v8_78 x9_2_140 a2 x11_f_140 x13_f_140 x14_f_140 x15_f_140 x16_f_140 x17_f_140) ++ pw ty pp) → va_S A s.heap H locs → ∀ ls : Array Slot, lv_has ls 10 [(0, .ref (X 8)), (1, .ref a0), (2, .int a1), (4, .int t_25), (5, .int t_32), (6, .int t_39), (7, .int v7_47), (8, .int v8_78), (9, .int v9_109)] → W p l e (headSpec vs_k_X3_eachInstance { frames := 4, cells := 0, slots := 0, locals := 97 }).room s m ([.ref (X 8), .ref a0, .int a1, .int a2] : List Value).toArray below meth c H locs 0 0 (MQ below (va_Qv (fun u : va_W => ((u = ((wW_k_X3_eachInstance ty X TT.2.2.2.2.2.2.2.1 TT.2.2.2.2.2.2.2.2.1 on cu pu TT.2.2.2.2.2.2.1 TT.2.2.2.2.2.2.2.2.2.1 TT.2.2.2.2.2.2.2.2.2.2.1 TT.2.2.2.2.2.2.2.2.2.2.2.1 TT.2.2.2.2.2.2.2.2.2.2.2.2 TT.1 TT.2.1 TT.2.2.1 TT.2.2.2.1 TT.2.2.2.2.1 TT.2.2.2.2.2.1) ++ pw ty pp)))) (wq_B D A) A) ([.ref (X 8), .ref a0, .int a1, .int a2] : List Value).toArray s 0 0 A) (F0 m 140 ls []) := by
                              intro x11_f_140 x13_f_140 x14_f_140 x15_f_140 x16_f_140 x17_f_140 x8_15_140 x8_5_140 x8_9_140 x9_2_140 hT  H locs hP hD hS ls hl
                              rw [m_k_X3_eachInstance_140] at hT
                              refine lv_iinc (v := v9_109 + 1) (lv' := [(9, .int (v9_109 + 1)), (0, .ref (X 8)), (1, .ref a0), (2, .int a1), (4, .int t_25), (5, .int t_32), (6, .int t_39), (7, .int v7_47), (8, .int v8_78)]) hx hb dX3_eachInstance_140 hl (k := 8) rfl (by rfl) (by decide) rfl (fun ls hl => ?_)
                              refine lv_goto (tgt := 109) hx hb dX3_eachInstance_143 (by decide) ?_
                              exact ih_109 (v9_109 + 1) x11_f_140 x13_f_140 x14_f_140 x15_f_140 x16_f_140 x17_f_140 x8_15_140 x8_5_140 x8_9_140 x9_2_140 (wi_up hu_109 (Int32.not_le.mp c_25)) hT (wi_inc hn_109 (Int32.not_le.mp c_25)) _ _ hP hD hS _ (lv_sub hl [1, 2, 3, 4, 5, 6, 7, 8, 0] rfl)
                            refine lv_if_eq (tgt := 140) hx hb dX3_eachInstance_131 (by decide) (fun c_29 => ?_) (fun c_29 => ?_)
                            · rw [if_pos c_29] at hT
                              exact J_140 x11_f_109 x13_f_109 x14_f_109 x15_f_109 x16_f_109 x17_f_109 x8_15_109 x8_5_109 x8_9_109 v9_109 hT _ _ hP hD hS _ (lv_sub hl [0, 1, 2, 3, 4, 5, 6, 7, 8] rfl)
                            · rw [if_neg c_29] at hT
                              refine lv_aload_n hx hb dX3_eachInstance_134 rfl (lv_at hl 0 rfl) ?_
                              refine lv_aload_n hx hb dX3_eachInstance_135 rfl (lv_at hl 1 rfl) ?_
                              refine lv_iload_n hx hb dX3_eachInstance_136 rfl (lv_at hl 2 rfl) ?_
                              obtain ⟨t_137, ht_137⟩ : ∃ t, t = m_k_X3_takeInstance pp x8_9_109 pu x8_15_109 v7_47 v8_78 v9_109 a2 x11_f_109 x13_f_109 x14_f_109 x15_f_109 x16_f_109 x17_f_109 a0 a1 := ⟨_, rfl⟩
                              rw [lE_eq ht_137] at hT
                              refine wq_vPW (wc := (wW_k_X3_takeInstance ty X x8_5_109 x8_9_109 on cu pu x8_15_109 v7_47 v8_78 v9_109 a2 x11_f_109 x13_f_109 x14_f_109 x15_f_109 x16_f_109 x17_f_109)) (pl := pw ty pp) (ux := (wW_k_X3_takeInstance ty X t_137.2.2.2.2.2.2.2.1 t_137.2.2.2.2.2.2.2.2.1 on cu pu t_137.2.2.2.2.2.2.1 v7_47 v8_78 t_137.2.2.2.2.2.2.2.2.2 a2 t_137.1 t_137.2.1 t_137.2.2.1 t_137.2.2.2.1 t_137.2.2.2.2.1 t_137.2.2.2.2.2.1)) (va_runV (As := [.ref a0, .int a1]) (rest := []) ⟨hx, hb, hml, hown, hts⟩ (k_X3_takeInstance l D ty td mi H.size pp X x8_5_109 x8_9_109 on cu pu x8_15_109 v7_47 v8_78 v9_109 a2 x11_f_109 x13_f_109 x14_f_109 x15_f_109 x16_f_109 x17_f_109 a0 a1 hok hm_a0 t_137 ht_137) (cwV 2 hts gv_k_X3_eachInstance_7 rfl rfl rfl (by decide +kernel) ⟨(Nat.le_of_ble_eq_true rfl), (Nat.le_of_ble_eq_true rfl)⟩) (wm_V (wm_preSP hP hD hK hE hS hA [true, true, true, true, true, true, true, true, true, true] rfl) (va_recv (q0 := 0) (ci := 5) hK hP rfl rfl)) rfl rfl hl.1 rfl (lv_room (Nat.le_of_ble_eq_true rfl)) dX3_eachInstance_137 ⟨(Nat.le_of_ble_eq_true rfl), (Nat.le_of_ble_eq_true rfl)⟩) hS hA hP hD [true, true, true, true, true, true, true, true, true, true] rfl rfl (fun _ h => h) (fun  H locs hw hP hD hS => ?_)
                              have hP : va_P D vwCl ((wW_k_X3_eachInstance ty X t_137.2.2.2.2.2.2.2.1 t_137.2.2.2.2.2.2.2.2.1 on cu pu t_137.2.2.2.2.2.2.1 v7_47 v8_78 t_137.2.2.2.2.2.2.2.2.2 a2 t_137.1 t_137.2.1 t_137.2.2.1 t_137.2.2.2.1 t_137.2.2.2.2.1 t_137.2.2.2.2.2.1) ++ pw ty pp) H := hP
                              have hD : va_D A ((wW_k_X3_eachInstance ty X t_137.2.2.2.2.2.2.2.1 t_137.2.2.2.2.2.2.2.2.1 on cu pu t_137.2.2.2.2.2.2.1 v7_47 v8_78 t_137.2.2.2.2.2.2.2.2.2 a2 t_137.1 t_137.2.1 t_137.2.2.1 t_137.2.2.2.1 t_137.2.2.2.2.1 t_137.2.2.2.2.2.1) ++ pw ty pp) := hD
                              refine W.widen (k := 0) (n := 0) (Nat.le_of_ble_eq_true rfl) (Nat.le_of_ble_eq_true rfl) ?_
                              exact J_140 t_137.1 t_137.2.1 t_137.2.2.1 t_137.2.2.2.1 t_137.2.2.2.2.1 t_137.2.2.2.2.2.1 t_137.2.2.2.2.2.2.1 t_137.2.2.2.2.2.2.2.1 t_137.2.2.2.2.2.2.2.2.1 t_137.2.2.2.2.2.2.2.2.2 hT _ _ hP hD hS _ (lv_sub hl [0, 1, 2, 3, 4, 5, 6, 7, 8] rfl)
                      exact L_109 wF 0 x11_f_78 x13_f_78 x14_f_78 x15_f_78 x16_f_78 x17_f_78 x8_15_78 x8_5_78 x8_9_78 x9_2_78 (wF_up 0) hT (by decide) _ _ hP hD hS _ (lv_sub hl [1, 2, 3, 4, 5, 6, 7, 8, 0] rfl)
                    · rw [if_pos c_24] at hT
                      refine lv_goto (tgt := 146) hx hb dX3_eachInstance_103 (by decide) ?_
                      exact J_146 x11_f_78 x13_f_78 x14_f_78 x15_f_78 x16_f_78 x17_f_78 x8_15_78 x8_5_78 x8_9_78 x9_2_78 hT _ _ hP hD hS _ (lv_sub hl [0, 1, 2, 3, 4, 5, 6, 7] rfl)
              exact L_78 wF 0 x11_f_47 x13_f_47 x14_f_47 x15_f_47 x16_f_47 x17_f_47 x8_15_47 x8_5_47 x8_9_47 x9_1_47 x9_2_47 (wF_up 0) hT (by decide) _ _ hP hD hS _ (lv_sub hl [1, 2, 3, 4, 5, 6, 7, 0] rfl)
            · rw [if_pos c_19] at hT
              refine lv_goto (tgt := 152) hx hb dX3_eachInstance_72 (by decide) ?_
              exact J_152 x11_f_47 x13_f_47 x14_f_47 x15_f_47 x16_f_47 x17_f_47 x8_15_47 x8_5_47 x8_9_47 x9_1_47 x9_2_47 hT _ _ hP hD hS _ (lv_sub hl [0, 1, 2, 3, 4, 5, 6] rfl)
      exact L_47 wF 0 su po hds kr kv kb gw hn kn b_1 b_2 b_3 (wF_up 0) hT (by decide) _ _ hP hD hS _ (lv_sub hl [4, 5, 6, 3, 2, 1, 0] rfl)
    · rw [if_pos c_5] at hT
      exact END su po hds kr kv kb gw hn kn b_1 b_2 b_3 a2 hT _ _ hP hD hS _ _ dX3_eachInstance_22
theorem dX3_keepInstances_0 : decode cX3_keepInstances 0 = .ok (.aload_n 0, 1) := by decide +kernel
theorem dX3_keepInstances_1 : decode cX3_keepInstances 1 = .ok (.iconst 0, 1) := by decide +kernel
theorem dX3_keepInstances_2 : decode cX3_keepInstances 2 = .ok (.putfield 132, 3) := by decide +kernel
theorem dX3_keepInstances_5 : decode cX3_keepInstances 5 = .ok (.iconst 0, 1) := by decide +kernel
theorem dX3_keepInstances_6 : decode cX3_keepInstances 6 = .ok (.istore_n 1, 1) := by decide +kernel
theorem dX3_keepInstances_7 : decode cX3_keepInstances 7 = .ok (.iload_n 1, 1) := by decide +kernel
theorem dX3_keepInstances_8 : decode cX3_keepInstances 8 = .ok (.bipush 20, 2) := by decide +kernel
theorem dX3_keepInstances_10 : decode cX3_keepInstances 10 = .ok (.if_icmp .ge 66, 3) := by decide +kernel
theorem dX3_keepInstances_13 : decode cX3_keepInstances 13 = .ok (.aload_n 0, 1) := by decide +kernel
theorem dX3_keepInstances_14 : decode cX3_keepInstances 14 = .ok (.getfield 38, 3) := by decide +kernel
theorem dX3_keepInstances_17 : decode cX3_keepInstances 17 = .ok (.iload_n 1, 1) := by decide +kernel
theorem dX3_keepInstances_18 : decode cX3_keepInstances 18 = .ok (.iconst 0, 1) := by decide +kernel
theorem dX3_keepInstances_19 : decode cX3_keepInstances 19 = .ok (.iastore, 1) := by decide +kernel
theorem dX3_keepInstances_20 : decode cX3_keepInstances 20 = .ok (.aload_n 0, 1) := by decide +kernel
theorem dX3_keepInstances_21 : decode cX3_keepInstances 21 = .ok (.getfield 47, 3) := by decide +kernel
theorem dX3_keepInstances_24 : decode cX3_keepInstances 24 = .ok (.iload_n 1, 1) := by decide +kernel
theorem dX3_keepInstances_25 : decode cX3_keepInstances 25 = .ok (.invokevirtual 97, 3) := by decide +kernel
theorem dX3_keepInstances_28 : decode cX3_keepInstances 28 = .ok (.astore_n 2, 1) := by decide +kernel
theorem dX3_keepInstances_29 : decode cX3_keepInstances 29 = .ok (.iconst 0, 1) := by decide +kernel
theorem dX3_keepInstances_30 : decode cX3_keepInstances 30 = .ok (.istore_n 3, 1) := by decide +kernel
theorem dX3_keepInstances_31 : decode cX3_keepInstances 31 = .ok (.aload_n 2, 1) := by decide +kernel
theorem dX3_keepInstances_32 : decode cX3_keepInstances 32 = .ok (.ifnull 38, 3) := by decide +kernel
theorem dX3_keepInstances_35 : decode cX3_keepInstances 35 = .ok (.iload_n 3, 1) := by decide +kernel
theorem dX3_keepInstances_36 : decode cX3_keepInstances 36 = .ok (.aload_n 0, 1) := by decide +kernel
theorem dX3_keepInstances_37 : decode cX3_keepInstances 37 = .ok (.getfield 47, 3) := by decide +kernel
theorem dX3_keepInstances_40 : decode cX3_keepInstances 40 = .ok (.getfield 104, 3) := by decide +kernel
theorem dX3_keepInstances_43 : decode cX3_keepInstances 43 = .ok (.if_icmp .ge 27, 3) := by decide +kernel
theorem dX3_keepInstances_46 : decode cX3_keepInstances 46 = .ok (.aload_n 0, 1) := by decide +kernel
theorem dX3_keepInstances_47 : decode cX3_keepInstances 47 = .ok (.aload_n 2, 1) := by decide +kernel
theorem dX3_keepInstances_48 : decode cX3_keepInstances 48 = .ok (.iload_n 1, 1) := by decide +kernel
theorem dX3_keepInstances_49 : decode cX3_keepInstances 49 = .ok (.aload_n 0, 1) := by decide +kernel
theorem dX3_keepInstances_50 : decode cX3_keepInstances 50 = .ok (.getfield 47, 3) := by decide +kernel
theorem dX3_keepInstances_53 : decode cX3_keepInstances 53 = .ok (.iload_n 3, 1) := by decide +kernel
theorem dX3_keepInstances_54 : decode cX3_keepInstances 54 = .ok (.aload_n 2, 1) := by decide +kernel
theorem dX3_keepInstances_55 : decode cX3_keepInstances 55 = .ok (.getfield 107, 3) := by decide +kernel
theorem dX3_keepInstances_58 : decode cX3_keepInstances 58 = .ok (.invokevirtual 112, 3) := by decide +kernel
theorem dX3_keepInstances_61 : decode cX3_keepInstances 61 = .ok (.invokevirtual 116, 3) := by decide +kernel
theorem dX3_keepInstances_64 : decode cX3_keepInstances 64 = .ok (.iinc 3 1, 3) := by decide +kernel
theorem dX3_keepInstances_67 : decode cX3_keepInstances 67 = .ok (.goto (-36), 3) := by decide +kernel
theorem dX3_keepInstances_70 : decode cX3_keepInstances 70 = .ok (.iinc 1 1, 3) := by decide +kernel
theorem dX3_keepInstances_73 : decode cX3_keepInstances 73 = .ok (.goto (-66), 3) := by decide +kernel
theorem dX3_keepInstances_76 : decode cX3_keepInstances 76 = .ok (.return_, 1) := by decide +kernel
def wW_k_X3_keepInstances (ty : Nat → ClassId) (X : Nat → Nat) (z9_0 : Int32) (z9_1 : Int32) (z9_2 : Int32) (z9_3 : Int32) (z9_4 : Nat → Option Nat) (z9_5 : Nat → Int32) (z9_6 : Nat → Int32) (z9_7 : Int32) (z9_8 : Int32) (z9_9 : Int32) (z9_10 : Int32) (z9_11 : Int32) (z9_12 : Int32) (z9_13 : Int32) (z9_14 : Int32) (z9_15 : Int32) (z9_16 : Int32) (z9_17 : Nat → Int64) (z9_18 : Nat → Int64) (z9_19 : Nat → Int32) (z9_20 : Nat → Int32) (z9_21 : Nat → Int32) (z9_22 : Nat → Int32) : va_W := [((X 1), .inr (8, [.ref (X 2), .int z9_0, .ref (X 3), .int z9_1, .ref (X 4), .ref (X 5), .int z9_2, .ref (X 6), .ref (X 7), .int z9_3])), ((X 3), .inl (ty 4, 20, .inr (.inr (.inr (.inr z9_4))))), ((X 4), .inl (ty 0, 7, .inl z9_5)), ((X 5), .inl (ty 0, 7, .inl z9_6)), ((X 8), .inr (5, [.ref (X 1), .ref (X 9), .ref (X 10), .ref (X 12), .ref (X 14), .int z9_7, .ref (X 15), .ref (X 16), .ref (X 17), .int z9_8, .ref (X 18), .ref (X 19), .int z9_9, .int z9_10, .int z9_11, .int z9_12])), ((X 9), .inr (4, [.int z9_13, .int z9_14, .int z9_15, .int z9_16])), ((X 10), .inr (3, [.ref (X 11)])), ((X 11), .inl (ty 1, 6, .inr (.inl z9_17))), ((X 12), .inr (3, [.ref (X 13)])), ((X 13), .inl (ty 1, 6, .inr (.inl z9_18))), ((X 14), .inl (ty 0, 16, .inl z9_19)), ((X 15), .inl (ty 0, 300, .inl z9_20)), ((X 16), .inl (ty 0, 300, .inl z9_21)), ((X 17), .inl (ty 0, 20, .inl z9_22))]
abbrev r_k_X3_keepInstances : Type := (Nat → Int64) × (Nat → Int64) × (Nat → Int32) × (Nat → Int32) × (Nat → Int32) × (Nat → Int32) × Int32 × Int32 × Int32 × Int32 × Int32 × Int32 × Int32
def m_k_X3_keepInstances_70 (rec_7 : Int32 → (Nat → Int64) → (Nat → Int64) → (Nat → Int32) → (Nat → Int32) → (Nat → Int32) → (Nat → Int32) → Int32 → Int32 → Int32 → Int32 → Int32 → Int32 → Int32 → r_k_X3_keepInstances) (v1_7 : Int32) (x11_f_70 : Nat → Int64) (x13_f_70 : Nat → Int64) (x14_f_70 : Nat → Int32) (x15_f_70 : Nat → Int32) (x16_f_70 : Nat → Int32) (x17_f_70 : Nat → Int32) (x8_15_70 : Int32) (x8_5_70 : Int32) (x8_9_70 : Int32) (x9_0_70 : Int32) (x9_1_70 : Int32) (x9_2_70 : Int32) (x9_3_70 : Int32) : r_k_X3_keepInstances :=
  rec_7 (v1_7 + 1) x11_f_70 x13_f_70 x14_f_70 x15_f_70 x16_f_70 x17_f_70 x8_15_70 x8_5_70 x8_9_70 x9_0_70 x9_1_70 x9_2_70 x9_3_70
def m_k_X3_keepInstances_31s (rec_7 : Int32 → (Nat → Int64) → (Nat → Int64) → (Nat → Int32) → (Nat → Int32) → (Nat → Int32) → (Nat → Int32) → Int32 → Int32 → Int32 → Int32 → Int32 → Int32 → Int32 → r_k_X3_keepInstances) (v1_7 : Int32) (rec_31 : Int32 → (Nat → Int64) → (Nat → Int64) → (Nat → Int32) → (Nat → Int32) → (Nat → Int32) → (Nat → Int32) → Int32 → Int32 → Int32 → Int32 → Int32 → Int32 → Int32 → r_k_X3_keepInstances) (v3_31 : Int32) (x11_f_31 : Nat → Int64) (x13_f_31 : Nat → Int64) (x14_f_31 : Nat → Int32) (x15_f_31 : Nat → Int32) (x16_f_31 : Nat → Int32) (x17_f_31 : Nat → Int32) (x8_15_31 : Int32) (x8_5_31 : Int32) (x8_9_31 : Int32) (x9_0_31 : Int32) (x9_1_31 : Int32) (x9_2_31 : Int32) (x9_3_31 : Int32) : r_k_X3_keepInstances :=
  m_k_X3_keepInstances_70 rec_7 v1_7 x11_f_31 x13_f_31 x14_f_31 x15_f_31 x16_f_31 x17_f_31 x8_15_31 x8_5_31 x8_9_31 x9_0_31 x9_1_31 x9_2_31 x9_3_31
def m_k_X3_keepInstances_31 (rec_7 : Int32 → (Nat → Int64) → (Nat → Int64) → (Nat → Int32) → (Nat → Int32) → (Nat → Int32) → (Nat → Int32) → Int32 → Int32 → Int32 → Int32 → Int32 → Int32 → Int32 → r_k_X3_keepInstances) (v1_7 : Int32) : Nat → Int32 → (Nat → Int64) → (Nat → Int64) → (Nat → Int32) → (Nat → Int32) → (Nat → Int32) → (Nat → Int32) → Int32 → Int32 → Int32 → Int32 → Int32 → Int32 → Int32 → r_k_X3_keepInstances
  | 0, _, _, _, _, _, _, _, _, _, _, _, _, _, _ => ((fun _ => 0), (fun _ => 0), (fun _ => 0), (fun _ => 0), (fun _ => 0), (fun _ => 0), 0, 0, 0, 0, 0, 0, 0)
  | n + 1, v3_31, x11_f_31, x13_f_31, x14_f_31, x15_f_31, x16_f_31, x17_f_31, x8_15_31, x8_5_31, x8_9_31, x9_0_31, x9_1_31, x9_2_31, x9_3_31 => m_k_X3_keepInstances_31s rec_7 v1_7 (fun v3_31 x11_f_31 x13_f_31 x14_f_31 x15_f_31 x16_f_31 x17_f_31 x8_15_31 x8_5_31 x8_9_31 x9_0_31 x9_1_31 x9_2_31 x9_3_31 => m_k_X3_keepInstances_31 rec_7 v1_7 n v3_31 x11_f_31 x13_f_31 x14_f_31 x15_f_31 x16_f_31 x17_f_31 x8_15_31 x8_5_31 x8_9_31 x9_0_31 x9_1_31 x9_2_31 x9_3_31) v3_31 x11_f_31 x13_f_31 x14_f_31 x15_f_31 x16_f_31 x17_f_31 x8_15_31 x8_5_31 x8_9_31 x9_0_31 x9_1_31 x9_2_31 x9_3_31
theorem m_k_X3_keepInstances_31_succ (rec_7 : Int32 → (Nat → Int64) → (Nat → Int64) → (Nat → Int32) → (Nat → Int32) → (Nat → Int32) → (Nat → Int32) → Int32 → Int32 → Int32 → Int32 → Int32 → Int32 → Int32 → r_k_X3_keepInstances) (v1_7 : Int32) (n : Nat) (v3_31 : Int32) (x11_f_31 : Nat → Int64) (x13_f_31 : Nat → Int64) (x14_f_31 : Nat → Int32) (x15_f_31 : Nat → Int32) (x16_f_31 : Nat → Int32) (x17_f_31 : Nat → Int32) (x8_15_31 : Int32) (x8_5_31 : Int32) (x8_9_31 : Int32) (x9_0_31 : Int32) (x9_1_31 : Int32) (x9_2_31 : Int32) (x9_3_31 : Int32) : m_k_X3_keepInstances_31 rec_7 v1_7 (n + 1) v3_31 x11_f_31 x13_f_31 x14_f_31 x15_f_31 x16_f_31 x17_f_31 x8_15_31 x8_5_31 x8_9_31 x9_0_31 x9_1_31 x9_2_31 x9_3_31 = m_k_X3_keepInstances_31s rec_7 v1_7 (m_k_X3_keepInstances_31 rec_7 v1_7 n) v3_31 x11_f_31 x13_f_31 x14_f_31 x15_f_31 x16_f_31 x17_f_31 x8_15_31 x8_5_31 x8_9_31 x9_0_31 x9_1_31 x9_2_31 x9_3_31 := rfl
def m_k_X3_keepInstances_31as (pp : pT) (tn : Int32) (tp : Nat → Int32) (tq : Nat → Int32) (pu : Int32) (o_25 : Nat) (rec_7 : Int32 → (Nat → Int64) → (Nat → Int64) → (Nat → Int32) → (Nat → Int32) → (Nat → Int32) → (Nat → Int32) → Int32 → Int32 → Int32 → Int32 → Int32 → Int32 → Int32 → r_k_X3_keepInstances) (v1_7 : Int32) (rec_31a : Int32 → (Nat → Int64) → (Nat → Int64) → (Nat → Int32) → (Nat → Int32) → (Nat → Int32) → (Nat → Int32) → Int32 → Int32 → Int32 → Int32 → Int32 → Int32 → Int32 → r_k_X3_keepInstances) (v3_31a : Int32) (x11_f_31a : Nat → Int64) (x13_f_31a : Nat → Int64) (x14_f_31a : Nat → Int32) (x15_f_31a : Nat → Int32) (x16_f_31a : Nat → Int32) (x17_f_31a : Nat → Int32) (x8_15_31a : Int32) (x8_5_31a : Int32) (x8_9_31a : Int32) (x9_0_31a : Int32) (x9_1_31a : Int32) (x9_2_31a : Int32) (x9_3_31a : Int32) : r_k_X3_keepInstances :=
  if tn ≤ v3_31a then
    m_k_X3_keepInstances_70 rec_7 v1_7 x11_f_31a x13_f_31a x14_f_31a x15_f_31a x16_f_31a x17_f_31a x8_15_31a x8_5_31a x8_9_31a x9_0_31a x9_1_31a x9_2_31a x9_3_31a
  else
    lE (m_k_X6_parameterAt tp tq v3_31a (pI pp o_25 1)) (fun t_58 =>
      lE (m_k_X3_eachInstance pp x8_5_31a x8_9_31a pu x8_15_31a x9_0_31a x9_1_31a x9_2_31a x11_f_31a x13_f_31a x14_f_31a x15_f_31a x16_f_31a x17_f_31a o_25 v1_7 t_58) (fun t_61 =>
        rec_31a (v3_31a + 1) t_61.1 t_61.2.1 t_61.2.2.1 t_61.2.2.2.1 t_61.2.2.2.2.1 t_61.2.2.2.2.2.1 t_61.2.2.2.2.2.2.1 t_61.2.2.2.2.2.2.2.1 t_61.2.2.2.2.2.2.2.2.1 t_61.2.2.2.2.2.2.2.2.2.1 t_61.2.2.2.2.2.2.2.2.2.2.1 t_61.2.2.2.2.2.2.2.2.2.2.2.1 t_61.2.2.2.2.2.2.2.2.2.2.2.2))
def m_k_X3_keepInstances_31a (pp : pT) (tn : Int32) (tp : Nat → Int32) (tq : Nat → Int32) (pu : Int32) (o_25 : Nat) (rec_7 : Int32 → (Nat → Int64) → (Nat → Int64) → (Nat → Int32) → (Nat → Int32) → (Nat → Int32) → (Nat → Int32) → Int32 → Int32 → Int32 → Int32 → Int32 → Int32 → Int32 → r_k_X3_keepInstances) (v1_7 : Int32) : Nat → Int32 → (Nat → Int64) → (Nat → Int64) → (Nat → Int32) → (Nat → Int32) → (Nat → Int32) → (Nat → Int32) → Int32 → Int32 → Int32 → Int32 → Int32 → Int32 → Int32 → r_k_X3_keepInstances
  | 0, _, _, _, _, _, _, _, _, _, _, _, _, _, _ => ((fun _ => 0), (fun _ => 0), (fun _ => 0), (fun _ => 0), (fun _ => 0), (fun _ => 0), 0, 0, 0, 0, 0, 0, 0)
  | n + 1, v3_31a, x11_f_31a, x13_f_31a, x14_f_31a, x15_f_31a, x16_f_31a, x17_f_31a, x8_15_31a, x8_5_31a, x8_9_31a, x9_0_31a, x9_1_31a, x9_2_31a, x9_3_31a => m_k_X3_keepInstances_31as pp tn tp tq pu o_25 rec_7 v1_7 (fun v3_31a x11_f_31a x13_f_31a x14_f_31a x15_f_31a x16_f_31a x17_f_31a x8_15_31a x8_5_31a x8_9_31a x9_0_31a x9_1_31a x9_2_31a x9_3_31a => m_k_X3_keepInstances_31a pp tn tp tq pu o_25 rec_7 v1_7 n v3_31a x11_f_31a x13_f_31a x14_f_31a x15_f_31a x16_f_31a x17_f_31a x8_15_31a x8_5_31a x8_9_31a x9_0_31a x9_1_31a x9_2_31a x9_3_31a) v3_31a x11_f_31a x13_f_31a x14_f_31a x15_f_31a x16_f_31a x17_f_31a x8_15_31a x8_5_31a x8_9_31a x9_0_31a x9_1_31a x9_2_31a x9_3_31a
theorem m_k_X3_keepInstances_31a_succ (pp : pT) (tn : Int32) (tp : Nat → Int32) (tq : Nat → Int32) (pu : Int32) (o_25 : Nat) (rec_7 : Int32 → (Nat → Int64) → (Nat → Int64) → (Nat → Int32) → (Nat → Int32) → (Nat → Int32) → (Nat → Int32) → Int32 → Int32 → Int32 → Int32 → Int32 → Int32 → Int32 → r_k_X3_keepInstances) (v1_7 : Int32) (n : Nat) (v3_31a : Int32) (x11_f_31a : Nat → Int64) (x13_f_31a : Nat → Int64) (x14_f_31a : Nat → Int32) (x15_f_31a : Nat → Int32) (x16_f_31a : Nat → Int32) (x17_f_31a : Nat → Int32) (x8_15_31a : Int32) (x8_5_31a : Int32) (x8_9_31a : Int32) (x9_0_31a : Int32) (x9_1_31a : Int32) (x9_2_31a : Int32) (x9_3_31a : Int32) : m_k_X3_keepInstances_31a pp tn tp tq pu o_25 rec_7 v1_7 (n + 1) v3_31a x11_f_31a x13_f_31a x14_f_31a x15_f_31a x16_f_31a x17_f_31a x8_15_31a x8_5_31a x8_9_31a x9_0_31a x9_1_31a x9_2_31a x9_3_31a = m_k_X3_keepInstances_31as pp tn tp tq pu o_25 rec_7 v1_7 (m_k_X3_keepInstances_31a pp tn tp tq pu o_25 rec_7 v1_7 n) v3_31a x11_f_31a x13_f_31a x14_f_31a x15_f_31a x16_f_31a x17_f_31a x8_15_31a x8_5_31a x8_9_31a x9_0_31a x9_1_31a x9_2_31a x9_3_31a := rfl
def m_k_X3_keepInstances_7s (pp : pT) (rn : Int32) (tn : Int32) (rf : Nat → Option Nat) (tp : Nat → Int32) (tq : Nat → Int32) (pu : Int32) (rec_7 : Int32 → (Nat → Int64) → (Nat → Int64) → (Nat → Int32) → (Nat → Int32) → (Nat → Int32) → (Nat → Int32) → Int32 → Int32 → Int32 → Int32 → Int32 → Int32 → Int32 → r_k_X3_keepInstances) (v1_7 : Int32) (x11_f_7 : Nat → Int64) (x13_f_7 : Nat → Int64) (x14_f_7 : Nat → Int32) (x15_f_7 : Nat → Int32) (x16_f_7 : Nat → Int32) (x17_f_7 : Nat → Int32) (x8_15_7 : Int32) (x8_5_7 : Int32) (x8_9_7 : Int32) (x9_0_7 : Int32) (x9_1_7 : Int32) (x9_2_7 : Int32) (x9_3_7 : Int32) : r_k_X3_keepInstances :=
  if 20 ≤ v1_7 then
    (x11_f_7, x13_f_7, x14_f_7, x15_f_7, x16_f_7, x17_f_7, x8_15_7, x8_5_7, x8_9_7, x9_0_7, x9_1_7, x9_2_7, x9_3_7)
  else
    lE (m_k_X6_ruleAt rn rf v1_7) (fun t_25 =>
      oE (t_25) (
        m_k_X3_keepInstances_31 rec_7 v1_7 wF 0 x11_f_7 x13_f_7 x14_f_7 x15_f_7 x16_f_7 (upd x17_f_7 v1_7.toNatClampNeg 0) x8_15_7 x8_5_7 x8_9_7 x9_0_7 x9_1_7 x9_2_7 x9_3_7) (fun o_25 =>
        m_k_X3_keepInstances_31a pp tn tp tq pu o_25 rec_7 v1_7 wF 0 x11_f_7 x13_f_7 x14_f_7 x15_f_7 x16_f_7 (upd x17_f_7 v1_7.toNatClampNeg 0) x8_15_7 x8_5_7 x8_9_7 x9_0_7 x9_1_7 x9_2_7 x9_3_7))
def m_k_X3_keepInstances_7 (pp : pT) (rn : Int32) (tn : Int32) (rf : Nat → Option Nat) (tp : Nat → Int32) (tq : Nat → Int32) (pu : Int32) : Nat → Int32 → (Nat → Int64) → (Nat → Int64) → (Nat → Int32) → (Nat → Int32) → (Nat → Int32) → (Nat → Int32) → Int32 → Int32 → Int32 → Int32 → Int32 → Int32 → Int32 → r_k_X3_keepInstances
  | 0, _, _, _, _, _, _, _, _, _, _, _, _, _, _ => ((fun _ => 0), (fun _ => 0), (fun _ => 0), (fun _ => 0), (fun _ => 0), (fun _ => 0), 0, 0, 0, 0, 0, 0, 0)
  | n + 1, v1_7, x11_f_7, x13_f_7, x14_f_7, x15_f_7, x16_f_7, x17_f_7, x8_15_7, x8_5_7, x8_9_7, x9_0_7, x9_1_7, x9_2_7, x9_3_7 => m_k_X3_keepInstances_7s pp rn tn rf tp tq pu (fun v1_7 x11_f_7 x13_f_7 x14_f_7 x15_f_7 x16_f_7 x17_f_7 x8_15_7 x8_5_7 x8_9_7 x9_0_7 x9_1_7 x9_2_7 x9_3_7 => m_k_X3_keepInstances_7 pp rn tn rf tp tq pu n v1_7 x11_f_7 x13_f_7 x14_f_7 x15_f_7 x16_f_7 x17_f_7 x8_15_7 x8_5_7 x8_9_7 x9_0_7 x9_1_7 x9_2_7 x9_3_7) v1_7 x11_f_7 x13_f_7 x14_f_7 x15_f_7 x16_f_7 x17_f_7 x8_15_7 x8_5_7 x8_9_7 x9_0_7 x9_1_7 x9_2_7 x9_3_7
theorem m_k_X3_keepInstances_7_succ (pp : pT) (rn : Int32) (tn : Int32) (rf : Nat → Option Nat) (tp : Nat → Int32) (tq : Nat → Int32) (pu : Int32) (n : Nat) (v1_7 : Int32) (x11_f_7 : Nat → Int64) (x13_f_7 : Nat → Int64) (x14_f_7 : Nat → Int32) (x15_f_7 : Nat → Int32) (x16_f_7 : Nat → Int32) (x17_f_7 : Nat → Int32) (x8_15_7 : Int32) (x8_5_7 : Int32) (x8_9_7 : Int32) (x9_0_7 : Int32) (x9_1_7 : Int32) (x9_2_7 : Int32) (x9_3_7 : Int32) : m_k_X3_keepInstances_7 pp rn tn rf tp tq pu (n + 1) v1_7 x11_f_7 x13_f_7 x14_f_7 x15_f_7 x16_f_7 x17_f_7 x8_15_7 x8_5_7 x8_9_7 x9_0_7 x9_1_7 x9_2_7 x9_3_7 = m_k_X3_keepInstances_7s pp rn tn rf tp tq pu (m_k_X3_keepInstances_7 pp rn tn rf tp tq pu n) v1_7 x11_f_7 x13_f_7 x14_f_7 x15_f_7 x16_f_7 x17_f_7 x8_15_7 x8_5_7 x8_9_7 x9_0_7 x9_1_7 x9_2_7 x9_3_7 := rfl
def m_k_X3_keepInstances (pp : pT) (rn : Int32) (tn : Int32) (rf : Nat → Option Nat) (tp : Nat → Int32) (tq : Nat → Int32) (hn : Int32) (pu : Int32) (gw : Int32) (b_1 : Int32) (b_2 : Int32) (b_3 : Int32) (b_p : Int32) (su : Nat → Int64) (po : Nat → Int64) (hds : Nat → Int32) (kr : Nat → Int32) (kv : Nat → Int32) (kb : Nat → Int32) : r_k_X3_keepInstances :=
  m_k_X3_keepInstances_7 pp rn tn rf tp tq pu wF 0 su po hds kr kv kb gw hn 0 b_1 b_2 b_3 b_p
def vs_k_X3_keepInstances : List Cond := .code yX3_keepInstances cX3_keepInstances 4 none :: ([.fieldLink RX3 132 "AnswerFold$Grounding" "keptCount" "I", .fieldLink RX3 38 "AnswerFold$Grounding" "keptByRule" "[I", .fieldLink RX3 47 "AnswerFold$Grounding" "program" "LAnswerFold$Program;", .methodLink RX3 97 yX6_ruleAt, .instanceMethod yX6_ruleAt, .selects RX6 yX6_ruleAt yX6_ruleAt, .initialized RX6, .methodLink RX3 112 yX6_parameterAt, .instanceMethod yX6_parameterAt, .selects RX6 yX6_parameterAt yX6_parameterAt, .methodLink RX3 116 yX3_eachInstance, .instanceMethod yX3_eachInstance, .selects RX3 yX3_eachInstance yX3_eachInstance, .initialized RX3] ++ (u_ws RX3 TX3 16 ++ (vs_k_X6_ruleAt ++ (u_ws RX6 TX6 10 ++ (u_ws RX8 TX8 11 ++ (vs_k_X6_parameterAt ++ (vs_k_X3_eachInstance)))))))
theorem iv_k_X3_keepInstances_X3 : ∀ w ∈ u_ws RX3 TX3 16, w ∈ vs_k_X3_keepInstances := (fun _ h => List.mem_cons_of_mem _ (List.mem_append_right _ (List.mem_append_left _ h)))
theorem iv_k_X3_keepInstances_X6 : ∀ w ∈ u_ws RX6 TX6 10, w ∈ vs_k_X3_keepInstances := (fun _ h => List.mem_cons_of_mem _ (List.mem_append_right _ (List.mem_append_right _ (List.mem_append_right _ (List.mem_append_left _ h)))))
theorem iv_k_X3_keepInstances_X8 : ∀ w ∈ u_ws RX8 TX8 11, w ∈ vs_k_X3_keepInstances := (fun _ h => List.mem_cons_of_mem _ (List.mem_append_right _ (List.mem_append_right _ (List.mem_append_right _ (List.mem_append_right _ (List.mem_append_left _ h))))))
set_option maxRecDepth 20000 in
theorem gv_k_X3_keepInstances_0 : GoodIn vs_k_X3_keepInstances (wsV RX3 97 RX6 yX6_ruleAt vs_k_X6_ruleAt) := goodIn_app (goodIn_sub (by decide +kernel) (by decide +kernel)) (goodIn_sub (fun _ h => List.mem_cons_of_mem _ (List.mem_append_right _ (List.mem_append_right _ (List.mem_append_left _ h)))) (by decide +kernel))
set_option maxRecDepth 20000 in
theorem gv_k_X3_keepInstances_1 : GoodIn vs_k_X3_keepInstances (wsV RX3 112 RX6 yX6_parameterAt vs_k_X6_parameterAt) := goodIn_app (goodIn_sub (by decide +kernel) (by decide +kernel)) (goodIn_sub (fun _ h => List.mem_cons_of_mem _ (List.mem_append_right _ (List.mem_append_right _ (List.mem_append_right _ (List.mem_append_right _ (List.mem_append_right _ (List.mem_append_left _ h))))))) (by decide +kernel))
set_option maxRecDepth 20000 in
theorem gv_k_X3_keepInstances_2 : GoodIn vs_k_X3_keepInstances (wsV RX3 116 RX3 yX3_eachInstance vs_k_X3_eachInstance) := goodIn_app (goodIn_sub (by decide +kernel) (by decide +kernel)) (goodIn_sub (fun _ h => List.mem_cons_of_mem _ (List.mem_append_right _ (List.mem_append_right _ (List.mem_append_right _ (List.mem_append_right _ (List.mem_append_right _ (List.mem_append_right _ (h)))))))) (by decide +kernel))
set_option maxHeartbeats 4000000 in
set_option maxRecDepth 100000 in
theorem k_X3_keepInstances (l : Launch) (D : va_G) (ty : Nat → ClassId) (td mi sz : Nat) (pp : pT) (X : Nat → Nat) (pn : Int32) (rn : Int32) (tn : Int32) (en : Int32) (rf : Nat → Option Nat) (tp : Nat → Int32) (tq : Nat → Int32) (hn : Int32) (kn : Int32) (on : Int32) (cu : Int32) (pu : Int32) (gw : Int32) (b_1 : Int32) (b_2 : Int32) (b_3 : Int32) (b_p : Int32) (su : Nat → Int64) (po : Nat → Int64) (hds : Nat → Int32) (kr : Nat → Int32) (kv : Nat → Int32) (kb : Nat → Int32) (hok : pOK pp) (hru : ∀ (i a : Nat), rf i = some a → a ∈ pRA pp) (TT : r_k_X3_keepInstances) (hTT : TT = m_k_X3_keepInstances pp rn tn rf tp tq hn pu gw b_1 b_2 b_3 b_p su po hds kr kv kb) : Met l yX3_keepInstances vs_k_X3_keepInstances { frames := 5, cells := 0, slots := 0, locals := 126 } (va_Pc [.ref (X 8)] (wq_P D ty td mi ((wW_k_X3_keepInstances ty X pn rn tn en rf tp tq hn kn on cu pu gw b_1 b_2 b_3 b_p su po hds kr kv kb) ++ pw ty pp) sz)) (va_Qv (fun u : va_W => ((u = ((wW_k_X3_keepInstances ty X pn rn tn en rf tp tq TT.2.2.2.2.2.2.2.1 TT.2.2.2.2.2.2.2.2.1 on cu pu TT.2.2.2.2.2.2.1 TT.2.2.2.2.2.2.2.2.2.1 TT.2.2.2.2.2.2.2.2.2.2.1 TT.2.2.2.2.2.2.2.2.2.2.2.1 TT.2.2.2.2.2.2.2.2.2.2.2.2 TT.1 TT.2.1 TT.2.2.1 TT.2.2.2.1 TT.2.2.2.2.1 TT.2.2.2.2.2.1) ++ pw ty pp)))) (wq_B D (va_A ((wW_k_X3_keepInstances ty X pn rn tn en rf tp tq hn kn on cu pu gw b_1 b_2 b_3 b_p su po hds kr kv kb) ++ pw ty pp) sz)) (va_A ((wW_k_X3_keepInstances ty X pn rn tn en rf tp tq hn kn on cu pu gw b_1 b_2 b_3 b_p su po hds kr kv kb) ++ pw ty pp) sz)) 0 0 (va_A ((wW_k_X3_keepInstances ty X pn rn tn en rf tp tq hn kn on cu pu gw b_1 b_2 b_3 b_p su po hds kr kv kb) ++ pw ty pp) sz) := by
  refine Met.ofW (cc := cX3_keepInstances) (maxL := 4) (ret := none) (by decide) rfl ?_
  intro p e s m args below meth c s₁ B hml hv
  obtain ⟨rfl, hsz, hP, hK, hD0, hE⟩ := hv
  have hx := B.exec
  have hb := B.bytes
  have hr := B.returns
  have hts := atoms_spec (ws := vs_k_X3_keepInstances) B.pre
  have hown : s.vm.findClass RX3 = some m.cls := findClass_of_methodNamed B.named
  have hlocks := B.notSynchronized
  subst hsz
  have hD := hD0.self (sz := s.heap.size)
  generalize hAe : va_A ((wW_k_X3_keepInstances ty X pn rn tn en rf tp tq hn kn on cu pu gw b_1 b_2 b_3 b_p su po hds kr kv kb) ++ pw ty pp) s.heap.size = A at hD hE ⊢
  have hA : ∀ q : Nat, s.heap.size ≤ q → A q := fun q h => by rw [← hAe]; exact Or.inr h
  have hS : va_S A s.heap s.heap [] := va_S.rf
  have hP : va_P D vwCl ((wW_k_X3_keepInstances ty X pn rn tn en rf tp tq hn kn on cu pu gw b_1 b_2 b_3 b_p su po hds kr kv kb) ++ pw ty pp) s.heap := hP
  have hl := lv_entry ([.ref (X 8)]) (n := 4) (Nat.le_of_ble_eq_true rfl)
  rw [lg_entry_eq]
  generalize (lg_sl ([.ref (X 8)]) ++ List.replicate (4 - (lg_sl ([.ref (X 8)])).length) Slot.unset).toArray = ls at hl ⊢
  have hl : lv_has ls 4 [(0, .ref (X 8))] := hl
  have END : ∀ (e0 : Nat → Int64) (e1 : Nat → Int64) (e2 : Nat → Int32) (e3 : Nat → Int32) (e4 : Nat → Int32) (e5 : Nat → Int32) (e6 : Int32) (e7 : Int32) (e8 : Int32) (e9 : Int32) (e10 : Int32) (e11 : Int32) (e12 : Int32), TT = (e0, e1, e2, e3, e4, e5, e6, e7, e8, e9, e10, e11, e12) → ∀ (H : Heap) (locs : List Loc), va_P D vwCl ((wW_k_X3_keepInstances ty X pn rn tn en rf tp tq e7 e8 on cu pu e6 e9 e10 e11 e12 e0 e1 e2 e3 e4 e5) ++ pw ty pp) H → va_D A ((wW_k_X3_keepInstances ty X pn rn tn en rf tp tq e7 e8 on cu pu e6 e9 e10 e11 e12 e0 e1 e2 e3 e4 e5) ++ pw ty pp) → va_S A s.heap H locs → ∀ (ls : Array Slot) (pc : Nat), decode cX3_keepInstances pc = .ok (.return_, 1) → W p l e (headSpec vs_k_X3_keepInstances { frames := 5, cells := 0, slots := 0, locals := 126 }).room s m ([.ref (X 8)] : List Value).toArray below meth c H locs 0 0 (MQ below (va_Qv (fun u : va_W => ((u = ((wW_k_X3_keepInstances ty X pn rn tn en rf tp tq TT.2.2.2.2.2.2.2.1 TT.2.2.2.2.2.2.2.2.1 on cu pu TT.2.2.2.2.2.2.1 TT.2.2.2.2.2.2.2.2.2.1 TT.2.2.2.2.2.2.2.2.2.2.1 TT.2.2.2.2.2.2.2.2.2.2.2.1 TT.2.2.2.2.2.2.2.2.2.2.2.2 TT.1 TT.2.1 TT.2.2.1 TT.2.2.2.1 TT.2.2.2.2.1 TT.2.2.2.2.2.1) ++ pw ty pp)))) (wq_B D A) A) ([.ref (X 8)] : List Value).toArray s 0 0 A) (F0 m pc ls []) := by
    intro e0 e1 e2 e3 e4 e5 e6 e7 e8 e9 e10 e11 e12 hT H locs hP hD hS ls pc hd
    have hM : TT = (e0, e1, e2, e3, e4, e5, e6, e7, e8, e9, e10, e11, e12) := hT
    exact W.vret hx hb hr (fun t ht hW => ⟨⟨((wW_k_X3_keepInstances ty X pn rn tn en rf tp tq e7 e8 on cu pu e6 e9 e10 e11 e12 e0 e1 e2 e3 e4 e5) ++ pw ty pp), rfl, (by rw [hM]), wq_B.of ht hP hD⟩, hS.F ht⟩) hS.2.2 hd
  have hT := hTT
  rw [m_k_X3_keepInstances] at hT
  refine lv_aload_n hx hb dX3_keepInstances_0 rfl (lv_at hl 0 rfl) ?_
  refine lv_iconst (v := 0) hx hb dX3_keepInstances_1 (by decide) ?_
  refine va_put (D := D) (ci := 5) (v := .int 0) (ty := tyX3 9) (C := RX3) (T := TX3) (N := 16) hx hb hts iv_k_X3_keepInstances_X3 tyX3 tyX3_ok nmX3 hown hK hP hD hS 4 rfl rfl 9 (by decide) (hts (.fieldLink RX3 132 "AnswerFold$Grounding" "keptCount" "I") (by decide +kernel)) (fun _ h9 => h9) rfl (by decide +kernel) rfl rfl (Nat.le_of_ble_eq_true rfl) dX3_keepInstances_2 (fun H locs hP hD hS => ?_)
  have hP : va_P D vwCl ((wW_k_X3_keepInstances ty X pn rn tn en rf tp tq hn (0) on cu pu gw b_1 b_2 b_3 b_p su po hds kr kv kb) ++ pw ty pp) H := hP
  have hD : va_D A ((wW_k_X3_keepInstances ty X pn rn tn en rf tp tq hn (0) on cu pu gw b_1 b_2 b_3 b_p su po hds kr kv kb) ++ pw ty pp) := hD
  refine lv_iconst (v := 0) hx hb dX3_keepInstances_5 (by decide) ?_
  refine lv_istore_n (lv' := [(1, .int 0), (0, .ref (X 8))]) hx hb dX3_keepInstances_6 rfl hl (by decide) rfl (fun ls hl => ?_)
  have L_7 : ∀ (n_7 : Nat) (v1_7 : Int32) (x11_f_7 : Nat → Int64) (x13_f_7 : Nat → Int64) (x14_f_7 : Nat → Int32) (x15_f_7 : Nat → Int32) (x16_f_7 : Nat → Int32) (x17_f_7 : Nat → Int32) (x8_15_7 : Int32) (x8_5_7 : Int32) (x8_9_7 : Int32) (x9_0_7 : Int32) (x9_1_7 : Int32) (x9_2_7 : Int32) (x9_3_7 : Int32), (2147483648 - v1_7.toInt).toNat < n_7 → TT = m_k_X3_keepInstances_7 pp rn tn rf tp tq pu n_7 v1_7 x11_f_7 x13_f_7 x14_f_7 x15_f_7 x16_f_7 x17_f_7 x8_15_7 x8_5_7 x8_9_7 x9_0_7 x9_1_7 x9_2_7 x9_3_7 → 0 ≤ v1_7.toInt → ∀ (H : Heap) (locs : List Loc), va_P D vwCl ((wW_k_X3_keepInstances ty X pn rn tn en rf tp tq x8_5_7 x8_9_7 on cu pu x8_15_7 x9_0_7 x9_1_7 x9_2_7 x9_3_7 x11_f_7 x13_f_7 x14_f_7 x15_f_7 x16_f_7 x17_f_7) ++ pw ty pp) H → va_D A ((wW_k_X3_keepInstances ty X pn rn tn en rf tp tq x8_5_7 x8_9_7 on cu pu x8_15_7 x9_0_7 x9_1_7 x9_2_7 x9_3_7 x11_f_7 x13_f_7 x14_f_7 x15_f_7 x16_f_7 x17_f_7) ++ pw ty pp) → va_S A s.heap H locs → ∀ ls : Array Slot, lv_has ls 4 [(0, .ref (X 8)), (1, .int v1_7)] → W p l e (headSpec vs_k_X3_keepInstances { frames := 5, cells := 0, slots := 0, locals := 126 }).room s m ([.ref (X 8)] : List Value).toArray below meth c H locs 0 0 (MQ below (va_Qv (fun u : va_W => ((u = ((wW_k_X3_keepInstances ty X pn rn tn en rf tp tq TT.2.2.2.2.2.2.2.1 TT.2.2.2.2.2.2.2.2.1 on cu pu TT.2.2.2.2.2.2.1 TT.2.2.2.2.2.2.2.2.2.1 TT.2.2.2.2.2.2.2.2.2.2.1 TT.2.2.2.2.2.2.2.2.2.2.2.1 TT.2.2.2.2.2.2.2.2.2.2.2.2 TT.1 TT.2.1 TT.2.2.1 TT.2.2.2.1 TT.2.2.2.2.1 TT.2.2.2.2.2.1) ++ pw ty pp)))) (wq_B D A) A) ([.ref (X 8)] : List Value).toArray s 0 0 A) (F0 m 7 ls []) := by
    intro n_7
    induction n_7 with
    | zero => intro v1_7 x11_f_7 x13_f_7 x14_f_7 x15_f_7 x16_f_7 x17_f_7 x8_15_7 x8_5_7 x8_9_7 x9_0_7 x9_1_7 x9_2_7 x9_3_7 hu; exact absurd hu (Nat.not_lt_zero _)
    | succ n_7 ih_7 =>
      intro v1_7 x11_f_7 x13_f_7 x14_f_7 x15_f_7 x16_f_7 x17_f_7 x8_15_7 x8_5_7 x8_9_7 x9_0_7 x9_1_7 x9_2_7 x9_3_7 hu_7 hT hn_7 H locs hP hD hS ls hl
      rw [m_k_X3_keepInstances_7_succ, m_k_X3_keepInstances_7s] at hT
      refine lv_iload_n hx hb dX3_keepInstances_7 rfl (lv_at hl 1 rfl) ?_
      refine lv_bipush (v := 20) hx hb dX3_keepInstances_8 (by decide) ?_
      refine lv_icmp_ge (tgt := 76) hx hb dX3_keepInstances_10 (by decide) (fun c_1 => ?_) (fun c_1 => ?_)
      · rw [if_pos c_1] at hT
        exact END x11_f_7 x13_f_7 x14_f_7 x15_f_7 x16_f_7 x17_f_7 x8_15_7 x8_5_7 x8_9_7 x9_0_7 x9_1_7 x9_2_7 x9_3_7 hT _ _ hP hD hS _ _ dX3_keepInstances_76
      · rw [if_neg c_1] at hT
        refine lv_aload_n hx hb dX3_keepInstances_13 rfl (lv_at hl 0 rfl) ?_
        refine va_get (D := D) (ci := 5) (v := .ref (X 17)) (C := RX3) (T := TX3) (N := 16) hx hb hts iv_k_X3_keepInstances_X3 hown hK hP 4 rfl rfl 8 (by decide) (hts (.fieldLink RX3 38 "AnswerFold$Grounding" "keptByRule" "[I") (by decide +kernel)) (fun _ h9 => h9) rfl dX3_keepInstances_14 ?_
        refine lv_iload_n hx hb dX3_keepInstances_17 rfl (lv_at hl 1 rfl) ?_
        refine lv_iconst (v := 0) hx hb dX3_keepInstances_18 (by decide) ?_
        refine va_iast (D := D) hx hb hK hP hD hS 13 0 rfl rfl (wi_in hn_7 (wi_hi c_1 (by decide))) dX3_keepInstances_19 (fun H locs hP hD hS => ?_)
        have hP : va_P D vwCl ((wW_k_X3_keepInstances ty X pn rn tn en rf tp tq x8_5_7 x8_9_7 on cu pu x8_15_7 x9_0_7 x9_1_7 x9_2_7 x9_3_7 x11_f_7 x13_f_7 x14_f_7 x15_f_7 x16_f_7 (upd x17_f_7 v1_7.toNatClampNeg 0)) ++ pw ty pp) H := hP
        have hD : va_D A ((wW_k_X3_keepInstances ty X pn rn tn en rf tp tq x8_5_7 x8_9_7 on cu pu x8_15_7 x9_0_7 x9_1_7 x9_2_7 x9_3_7 x11_f_7 x13_f_7 x14_f_7 x15_f_7 x16_f_7 (upd x17_f_7 v1_7.toNatClampNeg 0)) ++ pw ty pp) := hD
        refine lv_aload_n hx hb dX3_keepInstances_20 rfl (lv_at hl 0 rfl) ?_
        refine va_get (D := D) (ci := 5) (v := .ref (X 1)) (C := RX3) (T := TX3) (N := 16) hx hb hts iv_k_X3_keepInstances_X3 hown hK hP 4 rfl rfl 0 (by decide) (hts (.fieldLink RX3 47 "AnswerFold$Grounding" "program" "LAnswerFold$Program;") (by decide +kernel)) (fun _ h9 => h9) rfl dX3_keepInstances_21 ?_
        refine lv_iload_n hx hb dX3_keepInstances_24 rfl (lv_at hl 1 rfl) ?_
        obtain ⟨t_25, ht_25⟩ : ∃ t, t = m_k_X6_ruleAt rn rf v1_7 := ⟨_, rfl⟩
        rw [lE_eq ht_25] at hT
        refine wq_rPW (wc := (wW_k_X6_ruleAt ty X pn rn tn en rf)) (pl := pw ty pp) (ux := (wW_k_X6_ruleAt ty X pn rn tn en rf)) (va_runV (As := [.int v1_7]) (rest := []) ⟨hx, hb, hml, hown, hts⟩ (k_X6_ruleAt l D ty td mi H.size pp X pn rn tn en rf v1_7 hok hru t_25 ht_25) (cwV 1 hts gv_k_X3_keepInstances_0 rfl rfl rfl (by decide +kernel) ⟨(Nat.le_of_ble_eq_true rfl), (Nat.le_of_ble_eq_true rfl)⟩) (wm_V (wm_preSP hP hD hK hE hS hA [true, true] rfl) (va_recv (q0 := 0) (ci := 8) hK hP rfl rfl)) rfl rfl hl.1 rfl (lv_room (Nat.le_of_ble_eq_true rfl)) dX3_keepInstances_25 ⟨(Nat.le_of_ble_eq_true rfl), (Nat.le_of_ble_eq_true rfl)⟩) hS hA hP hD [true, true] rfl rfl (fun _ _ h => h.2) (fun r H locs hw hP hD hS => ?_)
        obtain ⟨rfl, -⟩ := hw
        have hP : va_P D vwCl ((wW_k_X3_keepInstances ty X pn rn tn en rf tp tq x8_5_7 x8_9_7 on cu pu x8_15_7 x9_0_7 x9_1_7 x9_2_7 x9_3_7 x11_f_7 x13_f_7 x14_f_7 x15_f_7 x16_f_7 (upd x17_f_7 v1_7.toNatClampNeg 0)) ++ pw ty pp) H := hP
        have hD : va_D A ((wW_k_X3_keepInstances ty X pn rn tn en rf tp tq x8_5_7 x8_9_7 on cu pu x8_15_7 x9_0_7 x9_1_7 x9_2_7 x9_3_7 x11_f_7 x13_f_7 x14_f_7 x15_f_7 x16_f_7 (upd x17_f_7 v1_7.toNatClampNeg 0)) ++ pw ty pp) := hD
        refine W.widen (k := 0) (n := 0) (Nat.le_of_ble_eq_true rfl) (Nat.le_of_ble_eq_true rfl) ?_
        rcases ho_25 : t_25 with _ | o_25
        · rw [ho_25, oE_none] at hT
          refine W.eq (g2 := F0 m 28 ls [.null]) rfl ?_
          refine lv_astore_nN (lv' := [(2, .null), (0, .ref (X 8)), (1, .int v1_7)]) hx hb dX3_keepInstances_28 rfl hl (by decide) rfl (fun ls hl => ?_)
          refine lv_iconst (v := 0) hx hb dX3_keepInstances_29 (by decide) ?_
          refine lv_istore_n (lv' := [(3, .int 0), (2, .null), (0, .ref (X 8)), (1, .int v1_7)]) hx hb dX3_keepInstances_30 rfl hl (by decide) rfl (fun ls hl => ?_)
          have L_31 : ∀ (n_31 : Nat) (v3_31 : Int32) (x11_f_31 : Nat → Int64) (x13_f_31 : Nat → Int64) (x14_f_31 : Nat → Int32) (x15_f_31 : Nat → Int32) (x16_f_31 : Nat → Int32) (x17_f_31 : Nat → Int32) (x8_15_31 : Int32) (x8_5_31 : Int32) (x8_9_31 : Int32) (x9_0_31 : Int32) (x9_1_31 : Int32) (x9_2_31 : Int32) (x9_3_31 : Int32), (2147483648 - v3_31.toInt).toNat < n_31 → TT = m_k_X3_keepInstances_31 (m_k_X3_keepInstances_7 pp rn tn rf tp tq pu n_7) v1_7 n_31 v3_31 x11_f_31 x13_f_31 x14_f_31 x15_f_31 x16_f_31 x17_f_31 x8_15_31 x8_5_31 x8_9_31 x9_0_31 x9_1_31 x9_2_31 x9_3_31 → 0 ≤ v3_31.toInt → v3_31 = 0 ∨ v3_31 = 1 → ∀ (H : Heap) (locs : List Loc), va_P D vwCl ((wW_k_X3_keepInstances ty X pn rn tn en rf tp tq x8_5_31 x8_9_31 on cu pu x8_15_31 x9_0_31 x9_1_31 x9_2_31 x9_3_31 x11_f_31 x13_f_31 x14_f_31 x15_f_31 x16_f_31 x17_f_31) ++ pw ty pp) H → va_D A ((wW_k_X3_keepInstances ty X pn rn tn en rf tp tq x8_5_31 x8_9_31 on cu pu x8_15_31 x9_0_31 x9_1_31 x9_2_31 x9_3_31 x11_f_31 x13_f_31 x14_f_31 x15_f_31 x16_f_31 x17_f_31) ++ pw ty pp) → va_S A s.heap H locs → ∀ ls : Array Slot, lv_has ls 4 [(0, .ref (X 8)), (1, .int v1_7), (2, .null), (3, .int v3_31)] → W p l e (headSpec vs_k_X3_keepInstances { frames := 5, cells := 0, slots := 0, locals := 126 }).room s m ([.ref (X 8)] : List Value).toArray below meth c H locs 0 0 (MQ below (va_Qv (fun u : va_W => ((u = ((wW_k_X3_keepInstances ty X pn rn tn en rf tp tq TT.2.2.2.2.2.2.2.1 TT.2.2.2.2.2.2.2.2.1 on cu pu TT.2.2.2.2.2.2.1 TT.2.2.2.2.2.2.2.2.2.1 TT.2.2.2.2.2.2.2.2.2.2.1 TT.2.2.2.2.2.2.2.2.2.2.2.1 TT.2.2.2.2.2.2.2.2.2.2.2.2 TT.1 TT.2.1 TT.2.2.1 TT.2.2.2.1 TT.2.2.2.2.1 TT.2.2.2.2.2.1) ++ pw ty pp)))) (wq_B D A) A) ([.ref (X 8)] : List Value).toArray s 0 0 A) (F0 m 31 ls []) := by
            intro n_31
            induction n_31 with
            | zero => intro v3_31 x11_f_31 x13_f_31 x14_f_31 x15_f_31 x16_f_31 x17_f_31 x8_15_31 x8_5_31 x8_9_31 x9_0_31 x9_1_31 x9_2_31 x9_3_31 hu; exact absurd hu (Nat.not_lt_zero _)
            | succ n_31 ih_31 =>
              intro v3_31 x11_f_31 x13_f_31 x14_f_31 x15_f_31 x16_f_31 x17_f_31 x8_15_31 x8_5_31 x8_9_31 x9_0_31 x9_1_31 x9_2_31 x9_3_31 hu_31 hT hn_31 hb_v3_31 H locs hP hD hS ls hl
              rw [m_k_X3_keepInstances_31_succ, m_k_X3_keepInstances_31s] at hT
              refine lv_aload_nN hx hb dX3_keepInstances_31 rfl (lv_at hl 2 rfl) ?_
              have J_70 : ∀ (x11_f_70 : Nat → Int64) (x13_f_70 : Nat → Int64) (x14_f_70 : Nat → Int32) (x15_f_70 : Nat → Int32) (x16_f_70 : Nat → Int32) (x17_f_70 : Nat → Int32) (x8_15_70 : Int32) (x8_5_70 : Int32) (x8_9_70 : Int32) (x9_0_70 : Int32) (x9_1_70 : Int32) (x9_2_70 : Int32) (x9_3_70 : Int32), TT = m_k_X3_keepInstances_70 (m_k_X3_keepInstances_7 pp rn tn rf tp tq pu n_7) v1_7 x11_f_70 x13_f_70 x14_f_70 x15_f_70 x16_f_70 x17_f_70 x8_15_70 x8_5_70 x8_9_70 x9_0_70 x9_1_70 x9_2_70 x9_3_70 → ∀ (H : Heap) (locs : List Loc), va_P D vwCl ((wW_k_X3_keepInstances ty X pn rn tn en rf tp tq x8_5_70 x8_9_70 on cu pu x8_15_70 x9_0_70 x9_1_70 x9_2_70 x9_3_70 x11_f_70 x13_f_70 x14_f_70 x15_f_70 x16_f_70 x17_f_70) ++ pw ty pp) H → va_D A ((wW_k_X3_keepInstances ty X pn rn tn en rf tp tq x8_5_70 x8_9_70 on cu pu x8_15_70 x9_0_70 x9_1_70 x9_2_70 x9_3_70 x11_f_70 x13_f_70 x14_f_70 x15_f_70 x16_f_70 x17_f_70) ++ pw ty pp) → va_S A s.heap H locs → ∀ ls : Array Slot, lv_has ls 4 [(0, .ref (X 8)), (1, .int v1_7)] → W p l e (headSpec vs_k_X3_keepInstances { frames := 5, cells := 0, slots := 0, locals := 126 }).room s m ([.ref (X 8)] : List Value).toArray below meth c H locs 0 0 (MQ below (va_Qv (fun u : va_W => ((u = ((wW_k_X3_keepInstances ty X pn rn tn en rf tp tq TT.2.2.2.2.2.2.2.1 TT.2.2.2.2.2.2.2.2.1 on cu pu TT.2.2.2.2.2.2.1 TT.2.2.2.2.2.2.2.2.2.1 TT.2.2.2.2.2.2.2.2.2.2.1 TT.2.2.2.2.2.2.2.2.2.2.2.1 TT.2.2.2.2.2.2.2.2.2.2.2.2 TT.1 TT.2.1 TT.2.2.1 TT.2.2.2.1 TT.2.2.2.2.1 TT.2.2.2.2.2.1) ++ pw ty pp)))) (wq_B D A) A) ([.ref (X 8)] : List Value).toArray s 0 0 A) (F0 m 70 ls []) := by
                intro x11_f_70 x13_f_70 x14_f_70 x15_f_70 x16_f_70 x17_f_70 x8_15_70 x8_5_70 x8_9_70 x9_0_70 x9_1_70 x9_2_70 x9_3_70 hT  H locs hP hD hS ls hl
                rw [m_k_X3_keepInstances_70] at hT
                refine lv_iinc (v := v1_7 + 1) (lv' := [(1, .int (v1_7 + 1)), (0, .ref (X 8))]) hx hb dX3_keepInstances_70 hl (k := 1) rfl (by rfl) (by decide) rfl (fun ls hl => ?_)
                refine lv_goto (tgt := 7) hx hb dX3_keepInstances_73 (by decide) ?_
                exact ih_7 (v1_7 + 1) x11_f_70 x13_f_70 x14_f_70 x15_f_70 x16_f_70 x17_f_70 x8_15_70 x8_5_70 x8_9_70 x9_0_70 x9_1_70 x9_2_70 x9_3_70 (wi_up hu_7 (Int32.not_le.mp c_1)) hT (wi_inc hn_7 (Int32.not_le.mp c_1)) _ _ hP hD hS _ (lv_sub hl [1, 0] rfl)
              refine lv_ifnullN (tgt := 70) hx hb dX3_keepInstances_32 (by decide) ?_
              exact J_70 x11_f_31 x13_f_31 x14_f_31 x15_f_31 x16_f_31 x17_f_31 x8_15_31 x8_5_31 x8_9_31 x9_0_31 x9_1_31 x9_2_31 x9_3_31 hT _ _ hP hD hS _ (lv_sub hl [0, 1] rfl)
          exact L_31 wF 0 x11_f_7 x13_f_7 x14_f_7 x15_f_7 x16_f_7 (upd x17_f_7 v1_7.toNatClampNeg 0) x8_15_7 x8_5_7 x8_9_7 x9_0_7 x9_1_7 x9_2_7 x9_3_7 (wF_up 0) hT (by decide) (by decide) _ _ hP hD hS _ (lv_sub hl [2, 3, 1, 0] rfl)
        · rw [ho_25, oE_some] at hT
          refine W.eq (g2 := F0 m 28 ls [.ref o_25]) rfl ?_
          refine lv_astore_n (lv' := [(2, .ref o_25), (0, .ref (X 8)), (1, .int v1_7)]) hx hb dX3_keepInstances_28 rfl hl (by decide) rfl (fun ls hl => ?_)
          refine lv_iconst (v := 0) hx hb dX3_keepInstances_29 (by decide) ?_
          refine lv_istore_n (lv' := [(3, .int 0), (2, .ref o_25), (0, .ref (X 8)), (1, .int v1_7)]) hx hb dX3_keepInstances_30 rfl hl (by decide) rfl (fun ls hl => ?_)
          have L_31a : ∀ (n_31a : Nat) (v3_31a : Int32) (x11_f_31a : Nat → Int64) (x13_f_31a : Nat → Int64) (x14_f_31a : Nat → Int32) (x15_f_31a : Nat → Int32) (x16_f_31a : Nat → Int32) (x17_f_31a : Nat → Int32) (x8_15_31a : Int32) (x8_5_31a : Int32) (x8_9_31a : Int32) (x9_0_31a : Int32) (x9_1_31a : Int32) (x9_2_31a : Int32) (x9_3_31a : Int32), (2147483648 - v3_31a.toInt).toNat < n_31a → TT = m_k_X3_keepInstances_31a pp tn tp tq pu o_25 (m_k_X3_keepInstances_7 pp rn tn rf tp tq pu n_7) v1_7 n_31a v3_31a x11_f_31a x13_f_31a x14_f_31a x15_f_31a x16_f_31a x17_f_31a x8_15_31a x8_5_31a x8_9_31a x9_0_31a x9_1_31a x9_2_31a x9_3_31a → 0 ≤ v3_31a.toInt → ∀ (H : Heap) (locs : List Loc), va_P D vwCl ((wW_k_X3_keepInstances ty X pn rn tn en rf tp tq x8_5_31a x8_9_31a on cu pu x8_15_31a x9_0_31a x9_1_31a x9_2_31a x9_3_31a x11_f_31a x13_f_31a x14_f_31a x15_f_31a x16_f_31a x17_f_31a) ++ pw ty pp) H → va_D A ((wW_k_X3_keepInstances ty X pn rn tn en rf tp tq x8_5_31a x8_9_31a on cu pu x8_15_31a x9_0_31a x9_1_31a x9_2_31a x9_3_31a x11_f_31a x13_f_31a x14_f_31a x15_f_31a x16_f_31a x17_f_31a) ++ pw ty pp) → va_S A s.heap H locs → ∀ ls : Array Slot, lv_has ls 4 [(0, .ref (X 8)), (1, .int v1_7), (2, .ref o_25), (3, .int v3_31a)] → W p l e (headSpec vs_k_X3_keepInstances { frames := 5, cells := 0, slots := 0, locals := 126 }).room s m ([.ref (X 8)] : List Value).toArray below meth c H locs 0 0 (MQ below (va_Qv (fun u : va_W => ((u = ((wW_k_X3_keepInstances ty X pn rn tn en rf tp tq TT.2.2.2.2.2.2.2.1 TT.2.2.2.2.2.2.2.2.1 on cu pu TT.2.2.2.2.2.2.1 TT.2.2.2.2.2.2.2.2.2.1 TT.2.2.2.2.2.2.2.2.2.2.1 TT.2.2.2.2.2.2.2.2.2.2.2.1 TT.2.2.2.2.2.2.2.2.2.2.2.2 TT.1 TT.2.1 TT.2.2.1 TT.2.2.2.1 TT.2.2.2.2.1 TT.2.2.2.2.2.1) ++ pw ty pp)))) (wq_B D A) A) ([.ref (X 8)] : List Value).toArray s 0 0 A) (F0 m 31 ls []) := by
            intro n_31a
            induction n_31a with
            | zero => intro v3_31a x11_f_31a x13_f_31a x14_f_31a x15_f_31a x16_f_31a x17_f_31a x8_15_31a x8_5_31a x8_9_31a x9_0_31a x9_1_31a x9_2_31a x9_3_31a hu; exact absurd hu (Nat.not_lt_zero _)
            | succ n_31a ih_31a =>
              intro v3_31a x11_f_31a x13_f_31a x14_f_31a x15_f_31a x16_f_31a x17_f_31a x8_15_31a x8_5_31a x8_9_31a x9_0_31a x9_1_31a x9_2_31a x9_3_31a hu_31a hT hn_31a H locs hP hD hS ls hl
              rw [m_k_X3_keepInstances_31a_succ, m_k_X3_keepInstances_31as] at hT
              refine lv_aload_n hx hb dX3_keepInstances_31 rfl (lv_at hl 2 rfl) ?_
              have J_70 : ∀ (x11_f_70 : Nat → Int64) (x13_f_70 : Nat → Int64) (x14_f_70 : Nat → Int32) (x15_f_70 : Nat → Int32) (x16_f_70 : Nat → Int32) (x17_f_70 : Nat → Int32) (x8_15_70 : Int32) (x8_5_70 : Int32) (x8_9_70 : Int32) (x9_0_70 : Int32) (x9_1_70 : Int32) (x9_2_70 : Int32) (x9_3_70 : Int32), TT = m_k_X3_keepInstances_70 (m_k_X3_keepInstances_7 pp rn tn rf tp tq pu n_7) v1_7 x11_f_70 x13_f_70 x14_f_70 x15_f_70 x16_f_70 x17_f_70 x8_15_70 x8_5_70 x8_9_70 x9_0_70 x9_1_70 x9_2_70 x9_3_70 → ∀ (H : Heap) (locs : List Loc), va_P D vwCl ((wW_k_X3_keepInstances ty X pn rn tn en rf tp tq x8_5_70 x8_9_70 on cu pu x8_15_70 x9_0_70 x9_1_70 x9_2_70 x9_3_70 x11_f_70 x13_f_70 x14_f_70 x15_f_70 x16_f_70 x17_f_70) ++ pw ty pp) H → va_D A ((wW_k_X3_keepInstances ty X pn rn tn en rf tp tq x8_5_70 x8_9_70 on cu pu x8_15_70 x9_0_70 x9_1_70 x9_2_70 x9_3_70 x11_f_70 x13_f_70 x14_f_70 x15_f_70 x16_f_70 x17_f_70) ++ pw ty pp) → va_S A s.heap H locs → ∀ ls : Array Slot, lv_has ls 4 [(0, .ref (X 8)), (1, .int v1_7)] → W p l e (headSpec vs_k_X3_keepInstances { frames := 5, cells := 0, slots := 0, locals := 126 }).room s m ([.ref (X 8)] : List Value).toArray below meth c H locs 0 0 (MQ below (va_Qv (fun u : va_W => ((u = ((wW_k_X3_keepInstances ty X pn rn tn en rf tp tq TT.2.2.2.2.2.2.2.1 TT.2.2.2.2.2.2.2.2.1 on cu pu TT.2.2.2.2.2.2.1 TT.2.2.2.2.2.2.2.2.2.1 TT.2.2.2.2.2.2.2.2.2.2.1 TT.2.2.2.2.2.2.2.2.2.2.2.1 TT.2.2.2.2.2.2.2.2.2.2.2.2 TT.1 TT.2.1 TT.2.2.1 TT.2.2.2.1 TT.2.2.2.2.1 TT.2.2.2.2.2.1) ++ pw ty pp)))) (wq_B D A) A) ([.ref (X 8)] : List Value).toArray s 0 0 A) (F0 m 70 ls []) := by
                intro x11_f_70 x13_f_70 x14_f_70 x15_f_70 x16_f_70 x17_f_70 x8_15_70 x8_5_70 x8_9_70 x9_0_70 x9_1_70 x9_2_70 x9_3_70 hT  H locs hP hD hS ls hl
                rw [m_k_X3_keepInstances_70] at hT
                refine lv_iinc (v := v1_7 + 1) (lv' := [(1, .int (v1_7 + 1)), (0, .ref (X 8))]) hx hb dX3_keepInstances_70 hl (k := 1) rfl (by rfl) (by decide) rfl (fun ls hl => ?_)
                refine lv_goto (tgt := 7) hx hb dX3_keepInstances_73 (by decide) ?_
                exact ih_7 (v1_7 + 1) x11_f_70 x13_f_70 x14_f_70 x15_f_70 x16_f_70 x17_f_70 x8_15_70 x8_5_70 x8_9_70 x9_0_70 x9_1_70 x9_2_70 x9_3_70 (wi_up hu_7 (Int32.not_le.mp c_1)) hT (wi_inc hn_7 (Int32.not_le.mp c_1)) _ _ hP hD hS _ (lv_sub hl [1, 0] rfl)
              refine lv_ifnull hx hb dX3_keepInstances_32 ?_
              refine lv_iload_n hx hb dX3_keepInstances_35 rfl (lv_at hl 3 rfl) ?_
              refine lv_aload_n hx hb dX3_keepInstances_36 rfl (lv_at hl 0 rfl) ?_
              refine va_get (D := D) (ci := 5) (v := .ref (X 1)) (C := RX3) (T := TX3) (N := 16) hx hb hts iv_k_X3_keepInstances_X3 hown hK hP 4 rfl rfl 0 (by decide) (hts (.fieldLink RX3 47 "AnswerFold$Grounding" "program" "LAnswerFold$Program;") (by decide +kernel)) (fun _ h9 => h9) rfl dX3_keepInstances_37 ?_
              refine va_getN (D := D) (ci := 8) (v := .int tn) (C := RX6) (T := TX6) (N := 10) hx hb hts iv_k_X3_keepInstances_X6 hown hK hP 0 rfl rfl 6 (by decide) (hE.at (.fieldLinkNest "AnswerFold$Grounding" 104 "AnswerFold$Program" "timeCount" "I" "AnswerFold") (by decide +kernel)) (fun _ h9 => h9) rfl dX3_keepInstances_40 ?_
              refine lv_icmp_ge (tgt := 70) hx hb dX3_keepInstances_43 (by decide) (fun c_4 => ?_) (fun c_4 => ?_)
              · rw [if_pos c_4] at hT
                exact J_70 x11_f_31a x13_f_31a x14_f_31a x15_f_31a x16_f_31a x17_f_31a x8_15_31a x8_5_31a x8_9_31a x9_0_31a x9_1_31a x9_2_31a x9_3_31a hT _ _ hP hD hS _ (lv_sub hl [0, 1] rfl)
              · rw [if_neg c_4] at hT
                refine lv_aload_n hx hb dX3_keepInstances_46 rfl (lv_at hl 0 rfl) ?_
                refine lv_aload_n hx hb dX3_keepInstances_47 rfl (lv_at hl 2 rfl) ?_
                refine lv_iload_n hx hb dX3_keepInstances_48 rfl (lv_at hl 1 rfl) ?_
                refine lv_aload_n hx hb dX3_keepInstances_49 rfl (lv_at hl 0 rfl) ?_
                refine va_get (D := D) (ci := 5) (v := .ref (X 1)) (C := RX3) (T := TX3) (N := 16) hx hb hts iv_k_X3_keepInstances_X3 hown hK hP 4 rfl rfl 0 (by decide) (hts (.fieldLink RX3 47 "AnswerFold$Grounding" "program" "LAnswerFold$Program;") (by decide +kernel)) (fun _ h9 => h9) rfl dX3_keepInstances_50 ?_
                refine lv_iload_n hx hb dX3_keepInstances_53 rfl (lv_at hl 3 rfl) ?_
                refine lv_aload_n hx hb dX3_keepInstances_54 rfl (lv_at hl 2 rfl) ?_
                obtain ⟨k_5, hk_5⟩ := List.getElem?_of_mem (pw_rule (ty := ty) (p := pp) (L := [((X 1), .inr (8, [.ref (X 2), .int pn, .ref (X 3), .int rn, .ref (X 4), .ref (X 5), .int tn, .ref (X 6), .ref (X 7), .int en])), ((X 3), .inl (ty 4, 20, .inr (.inr (.inr (.inr rf))))), ((X 4), .inl (ty 0, 7, .inl tp)), ((X 5), .inl (ty 0, 7, .inl tq)), ((X 8), .inr (5, [.ref (X 1), .ref (X 9), .ref (X 10), .ref (X 12), .ref (X 14), .int x8_5_31a, .ref (X 15), .ref (X 16), .ref (X 17), .int x8_9_31a, .ref (X 18), .ref (X 19), .int on, .int cu, .int pu, .int x8_15_31a])), ((X 9), .inr (4, [.int x9_0_31a, .int x9_1_31a, .int x9_2_31a, .int x9_3_31a])), ((X 10), .inr (3, [.ref (X 11)])), ((X 11), .inl (ty 1, 6, .inr (.inl x11_f_31a))), ((X 12), .inr (3, [.ref (X 13)])), ((X 13), .inl (ty 1, 6, .inr (.inl x13_f_31a))), ((X 14), .inl (ty 0, 16, .inl x14_f_31a)), ((X 15), .inl (ty 0, 300, .inl x15_f_31a)), ((X 16), .inl (ty 0, 300, .inl x16_f_31a)), ((X 17), .inl (ty 0, 20, .inl x17_f_31a))]) (mm_k_X6_ruleAt pp rn rf v1_7 hok hru _ (by rw [← ht_25]; exact ho_25)))
                refine va_getN (D := D) (ci := 10) (v := .int (pI pp o_25 1)) (C := RX8) (T := TX8) (N := 11) hx hb hts iv_k_X3_keepInstances_X8 hown hK hP k_5 hk_5 rfl 1 (by decide) (hE.at (.fieldLinkNest "AnswerFold$Grounding" 107 "AnswerFold$Rule" "part" "I" "AnswerFold") (by decide +kernel)) (fun _ h9 => h9) rfl dX3_keepInstances_55 ?_
                obtain ⟨t_58, ht_58⟩ : ∃ t, t = m_k_X6_parameterAt tp tq v3_31a (pI pp o_25 1) := ⟨_, rfl⟩
                rw [lE_eq ht_58] at hT
                refine wq_iQW (wc := (wW_k_X6_parameterAt ty X pn rn tn en tp tq)) (pl := pw ty pp) (va_runV (As := [.int v3_31a, .int (pI pp o_25 1)]) (rest := [.int v1_7, .ref o_25, .ref (X 8)]) ⟨hx, hb, hml, hown, hts⟩ (k_X6_parameterAt l D ty td mi H.size X pn rn tn en tp tq v3_31a (pI pp o_25 1) t_58 ht_58) (cwV 2 hts gv_k_X3_keepInstances_1 rfl rfl rfl (by decide +kernel) ⟨(Nat.le_of_ble_eq_true rfl), (Nat.le_of_ble_eq_true rfl)⟩) (wm_V (wm_preS (vP_left hP) (vD_left hD) hK hE hS hA [true, false, true, true] rfl) (va_recv (q0 := 0) (ci := 8) hK hP rfl rfl)) rfl rfl hl.1 rfl (lv_room (Nat.le_of_ble_eq_true rfl)) dX3_keepInstances_58 ⟨(Nat.le_of_ble_eq_true rfl), (Nat.le_of_ble_eq_true rfl)⟩) hS hA hP hD [true, false, true, true] rfl (fun _ _ h => by rcases h with ⟨-, rfl⟩; rfl) (fun r u H locs hw hP hD hS => ?_)
                obtain ⟨hr0, rfl⟩ := hw
                subst r
                have hP : va_P D vwCl ((wW_k_X3_keepInstances ty X pn rn tn en rf tp tq x8_5_31a x8_9_31a on cu pu x8_15_31a x9_0_31a x9_1_31a x9_2_31a x9_3_31a x11_f_31a x13_f_31a x14_f_31a x15_f_31a x16_f_31a x17_f_31a) ++ pw ty pp) H := hP
                have hD : va_D A ((wW_k_X3_keepInstances ty X pn rn tn en rf tp tq x8_5_31a x8_9_31a on cu pu x8_15_31a x9_0_31a x9_1_31a x9_2_31a x9_3_31a x11_f_31a x13_f_31a x14_f_31a x15_f_31a x16_f_31a x17_f_31a) ++ pw ty pp) := hD
                refine W.widen (k := 0) (n := 0) (Nat.le_of_ble_eq_true rfl) (Nat.le_of_ble_eq_true rfl) ?_
                obtain ⟨t_61, ht_61⟩ : ∃ t, t = m_k_X3_eachInstance pp x8_5_31a x8_9_31a pu x8_15_31a x9_0_31a x9_1_31a x9_2_31a x11_f_31a x13_f_31a x14_f_31a x15_f_31a x16_f_31a x17_f_31a o_25 v1_7 t_58 := ⟨_, rfl⟩
                rw [lE_eq ht_61] at hT
                refine wq_vPW (wc := (wW_k_X3_eachInstance ty X x8_5_31a x8_9_31a on cu pu x8_15_31a x9_0_31a x9_1_31a x9_2_31a x9_3_31a x11_f_31a x13_f_31a x14_f_31a x15_f_31a x16_f_31a x17_f_31a)) (pl := pw ty pp) (ux := (wW_k_X3_eachInstance ty X t_61.2.2.2.2.2.2.2.1 t_61.2.2.2.2.2.2.2.2.1 on cu pu t_61.2.2.2.2.2.2.1 t_61.2.2.2.2.2.2.2.2.2.1 t_61.2.2.2.2.2.2.2.2.2.2.1 t_61.2.2.2.2.2.2.2.2.2.2.2.1 t_61.2.2.2.2.2.2.2.2.2.2.2.2 t_61.1 t_61.2.1 t_61.2.2.1 t_61.2.2.2.1 t_61.2.2.2.2.1 t_61.2.2.2.2.2.1)) (va_runV (As := [.ref o_25, .int v1_7, .int t_58]) (rest := []) ⟨hx, hb, hml, hown, hts⟩ (k_X3_eachInstance l D ty td mi H.size pp X x8_5_31a x8_9_31a on cu pu x8_15_31a x9_0_31a x9_1_31a x9_2_31a x9_3_31a x11_f_31a x13_f_31a x14_f_31a x15_f_31a x16_f_31a x17_f_31a o_25 v1_7 t_58 hok (mm_k_X6_ruleAt pp rn rf v1_7 hok hru _ (by rw [← ht_25]; exact ho_25)) t_61 ht_61) (cwV 3 hts gv_k_X3_keepInstances_2 rfl rfl rfl (by decide +kernel) ⟨(Nat.le_of_ble_eq_true rfl), (Nat.le_of_ble_eq_true rfl)⟩) (wm_V (wm_preSP hP hD hK hE hS hA [false, false, false, false, true, true, true, true, true, true, true, true, true, true] rfl) (va_recv (q0 := 4) (ci := 5) hK hP rfl rfl)) rfl rfl hl.1 rfl (lv_room (Nat.le_of_ble_eq_true rfl)) dX3_keepInstances_61 ⟨(Nat.le_of_ble_eq_true rfl), (Nat.le_of_ble_eq_true rfl)⟩) hS hA hP hD [false, false, false, false, true, true, true, true, true, true, true, true, true, true] rfl rfl (fun _ h => h) (fun  H locs hw hP hD hS => ?_)
                have hP : va_P D vwCl ((wW_k_X3_keepInstances ty X pn rn tn en rf tp tq t_61.2.2.2.2.2.2.2.1 t_61.2.2.2.2.2.2.2.2.1 on cu pu t_61.2.2.2.2.2.2.1 t_61.2.2.2.2.2.2.2.2.2.1 t_61.2.2.2.2.2.2.2.2.2.2.1 t_61.2.2.2.2.2.2.2.2.2.2.2.1 t_61.2.2.2.2.2.2.2.2.2.2.2.2 t_61.1 t_61.2.1 t_61.2.2.1 t_61.2.2.2.1 t_61.2.2.2.2.1 t_61.2.2.2.2.2.1) ++ pw ty pp) H := hP
                have hD : va_D A ((wW_k_X3_keepInstances ty X pn rn tn en rf tp tq t_61.2.2.2.2.2.2.2.1 t_61.2.2.2.2.2.2.2.2.1 on cu pu t_61.2.2.2.2.2.2.1 t_61.2.2.2.2.2.2.2.2.2.1 t_61.2.2.2.2.2.2.2.2.2.2.1 t_61.2.2.2.2.2.2.2.2.2.2.2.1 t_61.2.2.2.2.2.2.2.2.2.2.2.2 t_61.1 t_61.2.1 t_61.2.2.1 t_61.2.2.2.1 t_61.2.2.2.2.1 t_61.2.2.2.2.2.1) ++ pw ty pp) := hD
                refine W.widen (k := 0) (n := 0) (Nat.le_of_ble_eq_true rfl) (Nat.le_of_ble_eq_true rfl) ?_
                refine lv_iinc (v := v3_31a + 1) (lv' := [(3, .int (v3_31a + 1)), (0, .ref (X 8)), (1, .int v1_7), (2, .ref o_25)]) hx hb dX3_keepInstances_64 hl (k := 3) rfl (by rfl) (by decide) rfl (fun ls hl => ?_)
                refine lv_goto (tgt := 31) hx hb dX3_keepInstances_67 (by decide) ?_
                exact ih_31a (v3_31a + 1) t_61.1 t_61.2.1 t_61.2.2.1 t_61.2.2.2.1 t_61.2.2.2.2.1 t_61.2.2.2.2.2.1 t_61.2.2.2.2.2.2.1 t_61.2.2.2.2.2.2.2.1 t_61.2.2.2.2.2.2.2.2.1 t_61.2.2.2.2.2.2.2.2.2.1 t_61.2.2.2.2.2.2.2.2.2.2.1 t_61.2.2.2.2.2.2.2.2.2.2.2.1 t_61.2.2.2.2.2.2.2.2.2.2.2.2 (wi_up hu_31a (Int32.not_le.mp c_4)) hT (wi_inc hn_31a (Int32.not_le.mp c_4)) _ _ hP hD hS _ (lv_sub hl [1, 2, 3, 0] rfl)
          exact L_31a wF 0 x11_f_7 x13_f_7 x14_f_7 x15_f_7 x16_f_7 (upd x17_f_7 v1_7.toNatClampNeg 0) x8_15_7 x8_5_7 x8_9_7 x9_0_7 x9_1_7 x9_2_7 x9_3_7 (wF_up 0) hT (by decide) _ _ hP hD hS _ (lv_sub hl [2, 3, 1, 0] rfl)
  exact L_7 wF 0 su po hds kr kv kb gw hn 0 b_1 b_2 b_3 b_p (wF_up 0) hT (by decide) _ _ hP hD hS _ (lv_sub hl [1, 0] rfl)
