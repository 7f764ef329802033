theorem dX9_compile_0 : decode cX9_compile 0 = .ok (.iconst 0, 1) := by decide +kernel
theorem dX9_compile_1 : decode cX9_compile 1 = .ok (.istore_n 1, 1) := by decide +kernel
theorem dX9_compile_2 : decode cX9_compile 2 = .ok (.iload_n 1, 1) := by decide +kernel
theorem dX9_compile_3 : decode cX9_compile 3 = .ok (.bipush 6, 2) := by decide +kernel
theorem dX9_compile_5 : decode cX9_compile 5 = .ok (.if_icmp .ge 33, 3) := by decide +kernel
theorem dX9_compile_8 : decode cX9_compile 8 = .ok (.aload_n 0, 1) := by decide +kernel
theorem dX9_compile_9 : decode cX9_compile 9 = .ok (.getfield 25, 3) := by decide +kernel
theorem dX9_compile_12 : decode cX9_compile 12 = .ok (.iload_n 1, 1) := by decide +kernel
theorem dX9_compile_13 : decode cX9_compile 13 = .ok (.iconst 0, 1) := by decide +kernel
theorem dX9_compile_14 : decode cX9_compile 14 = .ok (.iastore, 1) := by decide +kernel
theorem dX9_compile_15 : decode cX9_compile 15 = .ok (.aload_n 0, 1) := by decide +kernel
theorem dX9_compile_16 : decode cX9_compile 16 = .ok (.getfield 28, 3) := by decide +kernel
theorem dX9_compile_19 : decode cX9_compile 19 = .ok (.iload_n 1, 1) := by decide +kernel
theorem dX9_compile_20 : decode cX9_compile 20 = .ok (.aload_n 0, 1) := by decide +kernel
theorem dX9_compile_21 : decode cX9_compile 21 = .ok (.getfield 38, 3) := by decide +kernel
theorem dX9_compile_24 : decode cX9_compile 24 = .ok (.getfield 53, 3) := by decide +kernel
theorem dX9_compile_27 : decode cX9_compile 27 = .ok (.iload_n 1, 1) := by decide +kernel
theorem dX9_compile_28 : decode cX9_compile 28 = .ok (.invokevirtual 59, 3) := by decide +kernel
theorem dX9_compile_31 : decode cX9_compile 31 = .ok (.iastore, 1) := by decide +kernel
theorem dX9_compile_32 : decode cX9_compile 32 = .ok (.iinc 1 1, 3) := by decide +kernel
theorem dX9_compile_35 : decode cX9_compile 35 = .ok (.goto (-33), 3) := by decide +kernel
theorem dX9_compile_38 : decode cX9_compile 38 = .ok (.iconst 0, 1) := by decide +kernel
theorem dX9_compile_39 : decode cX9_compile 39 = .ok (.istore_n 1, 1) := by decide +kernel
theorem dX9_compile_40 : decode cX9_compile 40 = .ok (.iload_n 1, 1) := by decide +kernel
theorem dX9_compile_41 : decode cX9_compile 41 = .ok (.aload_n 0, 1) := by decide +kernel
theorem dX9_compile_42 : decode cX9_compile 42 = .ok (.getfield 38, 3) := by decide +kernel
theorem dX9_compile_45 : decode cX9_compile 45 = .ok (.getfield 65, 3) := by decide +kernel
theorem dX9_compile_48 : decode cX9_compile 48 = .ok (.if_icmp .ge 46, 3) := by decide +kernel
theorem dX9_compile_51 : decode cX9_compile 51 = .ok (.aload_n 0, 1) := by decide +kernel
theorem dX9_compile_52 : decode cX9_compile 52 = .ok (.getfield 38, 3) := by decide +kernel
theorem dX9_compile_55 : decode cX9_compile 55 = .ok (.iload_n 1, 1) := by decide +kernel
theorem dX9_compile_56 : decode cX9_compile 56 = .ok (.invokevirtual 69, 3) := by decide +kernel
theorem dX9_compile_59 : decode cX9_compile 59 = .ok (.istore_n 2, 1) := by decide +kernel
theorem dX9_compile_60 : decode cX9_compile 60 = .ok (.iload_n 2, 1) := by decide +kernel
theorem dX9_compile_61 : decode cX9_compile 61 = .ok (.ifCond .lt 27, 3) := by decide +kernel
theorem dX9_compile_64 : decode cX9_compile 64 = .ok (.iload_n 2, 1) := by decide +kernel
theorem dX9_compile_65 : decode cX9_compile 65 = .ok (.sipush 384, 3) := by decide +kernel
theorem dX9_compile_68 : decode cX9_compile 68 = .ok (.if_icmp .ge 20, 3) := by decide +kernel
theorem dX9_compile_71 : decode cX9_compile 71 = .ok (.aload_n 0, 1) := by decide +kernel
theorem dX9_compile_72 : decode cX9_compile 72 = .ok (.getfield 25, 3) := by decide +kernel
theorem dX9_compile_75 : decode cX9_compile 75 = .ok (.iload_n 2, 1) := by decide +kernel
theorem dX9_compile_76 : decode cX9_compile 76 = .ok (.bipush 64, 2) := by decide +kernel
theorem dX9_compile_78 : decode cX9_compile 78 = .ok (.idiv, 1) := by decide +kernel
theorem dX9_compile_79 : decode cX9_compile 79 = .ok (.dup2, 1) := by decide +kernel
theorem dX9_compile_80 : decode cX9_compile 80 = .ok (.iaload, 1) := by decide +kernel
theorem dX9_compile_81 : decode cX9_compile 81 = .ok (.aload_n 0, 1) := by decide +kernel
theorem dX9_compile_82 : decode cX9_compile 82 = .ok (.iload_n 2, 1) := by decide +kernel
theorem dX9_compile_83 : decode cX9_compile 83 = .ok (.invokevirtual 72, 3) := by decide +kernel
theorem dX9_compile_86 : decode cX9_compile 86 = .ok (.ior, 1) := by decide +kernel
theorem dX9_compile_87 : decode cX9_compile 87 = .ok (.iastore, 1) := by decide +kernel
theorem dX9_compile_88 : decode cX9_compile 88 = .ok (.iinc 1 1, 3) := by decide +kernel
theorem dX9_compile_91 : decode cX9_compile 91 = .ok (.goto (-51), 3) := by decide +kernel
theorem dX9_compile_94 : decode cX9_compile 94 = .ok (.aload_n 0, 1) := by decide +kernel
theorem dX9_compile_95 : decode cX9_compile 95 = .ok (.iconst 0, 1) := by decide +kernel
theorem dX9_compile_96 : decode cX9_compile 96 = .ok (.putfield 75, 3) := by decide +kernel
theorem dX9_compile_99 : decode cX9_compile 99 = .ok (.iconst 0, 1) := by decide +kernel
theorem dX9_compile_100 : decode cX9_compile 100 = .ok (.istore_n 1, 1) := by decide +kernel
theorem dX9_compile_101 : decode cX9_compile 101 = .ok (.iload_n 1, 1) := by decide +kernel
theorem dX9_compile_102 : decode cX9_compile 102 = .ok (.aload_n 0, 1) := by decide +kernel
theorem dX9_compile_103 : decode cX9_compile 103 = .ok (.getfield 34, 3) := by decide +kernel
theorem dX9_compile_106 : decode cX9_compile 106 = .ok (.getfield 78, 3) := by decide +kernel
theorem dX9_compile_109 : decode cX9_compile 109 = .ok (.if_icmp .ge 43, 3) := by decide +kernel
theorem dX9_compile_112 : decode cX9_compile 112 = .ok (.aload_n 0, 1) := by decide +kernel
theorem dX9_compile_113 : decode cX9_compile 113 = .ok (.getfield 34, 3) := by decide +kernel
theorem dX9_compile_116 : decode cX9_compile 116 = .ok (.iload_n 1, 1) := by decide +kernel
theorem dX9_compile_117 : decode cX9_compile 117 = .ok (.invokevirtual 83, 3) := by decide +kernel
theorem dX9_compile_120 : decode cX9_compile 120 = .ok (.bipush 117, 2) := by decide +kernel
theorem dX9_compile_122 : decode cX9_compile 122 = .ok (.if_icmp .ne 24, 3) := by decide +kernel
theorem dX9_compile_125 : decode cX9_compile 125 = .ok (.aload_n 0, 1) := by decide +kernel
theorem dX9_compile_126 : decode cX9_compile 126 = .ok (.dup, 1) := by decide +kernel
theorem dX9_compile_127 : decode cX9_compile 127 = .ok (.getfield 75, 3) := by decide +kernel
theorem dX9_compile_130 : decode cX9_compile 130 = .ok (.aload_n 0, 1) := by decide +kernel
theorem dX9_compile_131 : decode cX9_compile 131 = .ok (.aload_n 0, 1) := by decide +kernel
theorem dX9_compile_132 : decode cX9_compile 132 = .ok (.getfield 34, 3) := by decide +kernel
theorem dX9_compile_135 : decode cX9_compile 135 = .ok (.iload_n 1, 1) := by decide +kernel
theorem dX9_compile_136 : decode cX9_compile 136 = .ok (.invokevirtual 87, 3) := by decide +kernel
theorem dX9_compile_139 : decode cX9_compile 139 = .ok (.invokevirtual 72, 3) := by decide +kernel
theorem dX9_compile_142 : decode cX9_compile 142 = .ok (.ior, 1) := by decide +kernel
theorem dX9_compile_143 : decode cX9_compile 143 = .ok (.putfield 75, 3) := by decide +kernel
theorem dX9_compile_146 : decode cX9_compile 146 = .ok (.iinc 1 1, 3) := by decide +kernel
theorem dX9_compile_149 : decode cX9_compile 149 = .ok (.goto (-48), 3) := by decide +kernel
theorem dX9_compile_152 : decode cX9_compile 152 = .ok (.aload_n 0, 1) := by decide +kernel
theorem dX9_compile_153 : decode cX9_compile 153 = .ok (.invokevirtual 90, 3) := by decide +kernel
theorem dX9_compile_156 : decode cX9_compile 156 = .ok (.aload_n 0, 1) := by decide +kernel
theorem dX9_compile_157 : decode cX9_compile 157 = .ok (.getfield 12, 3) := by decide +kernel
theorem dX9_compile_160 : decode cX9_compile 160 = .ok (.iconst 0, 1) := by decide +kernel
theorem dX9_compile_161 : decode cX9_compile 161 = .ok (.putfield 93, 3) := by decide +kernel
theorem dX9_compile_164 : decode cX9_compile 164 = .ok (.aload_n 0, 1) := by decide +kernel
theorem dX9_compile_165 : decode cX9_compile 165 = .ok (.getfield 18, 3) := by decide +kernel
theorem dX9_compile_168 : decode cX9_compile 168 = .ok (.iconst 0, 1) := by decide +kernel
theorem dX9_compile_169 : decode cX9_compile 169 = .ok (.putfield 93, 3) := by decide +kernel
theorem dX9_compile_172 : decode cX9_compile 172 = .ok (.iconst 0, 1) := by decide +kernel
theorem dX9_compile_173 : decode cX9_compile 173 = .ok (.istore_n 1, 1) := by decide +kernel
theorem dX9_compile_174 : decode cX9_compile 174 = .ok (.iload_n 1, 1) := by decide +kernel
theorem dX9_compile_175 : decode cX9_compile 175 = .ok (.aload_n 0, 1) := by decide +kernel
theorem dX9_compile_176 : decode cX9_compile 176 = .ok (.getfield 38, 3) := by decide +kernel
theorem dX9_compile_179 : decode cX9_compile 179 = .ok (.getfield 96, 3) := by decide +kernel
theorem dX9_compile_182 : decode cX9_compile 182 = .ok (.if_icmp .ge 14, 3) := by decide +kernel
theorem dX9_compile_185 : decode cX9_compile 185 = .ok (.aload_n 0, 1) := by decide +kernel
theorem dX9_compile_186 : decode cX9_compile 186 = .ok (.iload_n 1, 1) := by decide +kernel
theorem dX9_compile_187 : decode cX9_compile 187 = .ok (.invokevirtual 99, 3) := by decide +kernel
theorem dX9_compile_190 : decode cX9_compile 190 = .ok (.iinc 1 1, 3) := by decide +kernel
theorem dX9_compile_193 : decode cX9_compile 193 = .ok (.goto (-19), 3) := by decide +kernel
theorem dX9_compile_196 : decode cX9_compile 196 = .ok (.aload_n 0, 1) := by decide +kernel
theorem dX9_compile_197 : decode cX9_compile 197 = .ok (.iconst 0, 1) := by decide +kernel
theorem dX9_compile_198 : decode cX9_compile 198 = .ok (.putfield 103, 3) := by decide +kernel
theorem dX9_compile_201 : decode cX9_compile 201 = .ok (.return_, 1) := by decide +kernel
def wW_k_X9_compile (ty : Nat → ClassId) (X : Nat → Nat) (z9_0 : Int32) (z9_1 : Int32) (z9_2 : Int32) (z9_3 : Int32) (z9_4 : Nat → Option Nat) (z9_5 : Nat → Int32) (z9_6 : Nat → Int32) (z9_7 : Int32) (z9_8 : Int32) (z9_9 : Int32) (z9_10 : Int32) (z9_11 : Int32) (z9_12 : Int32) (z9_13 : Int32) (z9_14 : Int32) (z9_15 : Int32) (z9_16 : Int32) (z9_17 : Nat → Int64) (z9_18 : Nat → Int32) (z9_19 : Nat → Int32) (z9_20 : Nat → Int32) (z9_21 : Nat → Int32) (z9_22 : Nat → Int32) (z9_23 : Int32) (z9_24 : Int32) (z9_25 : Int32) (z9_26 : Int32) (z9_27 : Int32) (z9_28 : Int32) (z9_29 : Int32) (z9_30 : Int32) (z9_31 : Int32) (z9_32 : Int32) (z9_33 : Nat → Int32) (z9_34 : Nat → Int32) (z9_35 : Nat → Int32) (z9_36 : Nat → Int32) (z9_37 : Nat → Int32) (z9_38 : Nat → Int32) (z9_39 : Int32) (z9_40 : Nat → Int32) (z9_41 : Nat → Int32) (z9_42 : Nat → Int32) (z9_43 : Nat → Int32) (z9_44 : Nat → Int32) (z9_45 : Nat → Int32) (z9_46 : Nat → Int32) (z9_47 : Nat → Int32) : va_W := [((X 1), .inr (8, [.ref (X 2), .int z9_0, .ref (X 3), .int z9_1, .ref (X 4), .ref (X 5), .int z9_2, .ref (X 6), .ref (X 7), .int z9_3])), ((X 3), .inl (ty 4, 20, .inr (.inr (.inr (.inr z9_4))))), ((X 6), .inl (ty 0, 6, .inl z9_5)), ((X 7), .inl (ty 2, 6, .inl z9_6)), ((X 8), .inr (5, [.ref (X 1), .ref (X 9), .ref (X 10), .ref (X 12), .ref (X 14), .int z9_7, .ref (X 15), .ref (X 16), .ref (X 17), .int z9_8, .ref (X 18), .ref (X 19), .int z9_9, .int z9_10, .int z9_11, .int z9_12])), ((X 9), .inr (4, [.int z9_13, .int z9_14, .int z9_15, .int z9_16])), ((X 10), .inr (3, [.ref (X 11)])), ((X 11), .inl (ty 1, 6, .inr (.inl z9_17))), ((X 14), .inl (ty 0, 16, .inl z9_18)), ((X 15), .inl (ty 0, 300, .inl z9_19)), ((X 16), .inl (ty 0, 300, .inl z9_20)), ((X 18), .inl (ty 0, 384, .inl z9_21)), ((X 19), .inl (ty 0, 384, .inl z9_22)), ((X 20), .inr (11, [.ref (X 1), .ref (X 8), .ref (X 21), .ref (X 28), .ref (X 35), .int z9_23, .ref (X 36), .ref (X 37), .ref (X 38), .int z9_24, .int z9_25, .int z9_26, .int z9_27, .int z9_28, .int z9_29, .int z9_30, .int z9_31])), ((X 21), .inr (9, [.ref (X 22), .ref (X 23), .ref (X 24), .ref (X 25), .ref (X 26), .ref (X 27), .int z9_32])), ((X 22), .inl (ty 0, 300, .inl z9_33)), ((X 23), .inl (ty 0, 300, .inl z9_34)), ((X 24), .inl (ty 0, 300, .inl z9_35)), ((X 25), .inl (ty 0, 300, .inl z9_36)), ((X 26), .inl (ty 0, 300, .inl z9_37)), ((X 27), .inl (ty 0, 300, .inl z9_38)), ((X 28), .inr (9, [.ref (X 29), .ref (X 30), .ref (X 31), .ref (X 32), .ref (X 33), .ref (X 34), .int z9_39])), ((X 29), .inl (ty 0, 300, .inl z9_40)), ((X 30), .inl (ty 0, 300, .inl z9_41)), ((X 31), .inl (ty 0, 300, .inl z9_42)), ((X 32), .inl (ty 0, 300, .inl z9_43)), ((X 33), .inl (ty 0, 300, .inl z9_44)), ((X 34), .inl (ty 0, 300, .inl z9_45)), ((X 36), .inl (ty 0, 6, .inl z9_46)), ((X 37), .inl (ty 0, 6, .inl z9_47))]
abbrev r_k_X9_compile : Type := (Nat → Int32) × Int32 × Int32 × Int32 × Int32 × Int32 × (Nat → Int32) × (Nat → Int32) × (Nat → Int32) × (Nat → Int32) × (Nat → Int32) × (Nat → Int32) × Int32 × (Nat → Int32) × (Nat → Int32) × (Nat → Int32) × (Nat → Int32) × (Nat → Int32) × (Nat → Int32) × (Nat → Int32) × (Nat → Int32) × Int32 × Int32 × Int32 × Int32 × Int32
def m_k_X9_compile_88 (rec_40 : Int32 → (Nat → Int32) → r_k_X9_compile) (v1_40 : Int32) (x36_f_88 : Nat → Int32) : r_k_X9_compile :=
  rec_40 (v1_40 + 1) x36_f_88
def m_k_X9_compile_146 (rec_101 : Int32 → Int32 → r_k_X9_compile) (v1_101 : Int32) (x20_11_146 : Int32) : r_k_X9_compile :=
  rec_101 (v1_101 + 1) x20_11_146
def m_k_X9_compile_174s (pp : pT) (rn : Int32) (rf : Nat → Option Nat) (kn : Int32) (on : Int32) (su : Nat → Int64) (kr : Nat → Int32) (kv : Nat → Int32) (ob : Nat → Int32) (t_153 : r_k_X9_noteRules) (x20_11_101 : Int32) (x36_f_40 : Nat → Int32) (x37_f_2 : Nat → Int32) (rec_174 : Int32 → (Nat → Int32) → Int32 → (Nat → Int32) → (Nat → Int32) → (Nat → Int32) → (Nat → Int32) → (Nat → Int32) → (Nat → Int32) → Int32 → (Nat → Int32) → (Nat → Int32) → (Nat → Int32) → (Nat → Int32) → (Nat → Int32) → (Nat → Int32) → Int32 → Int32 → Int32 → Int32 → Int32 → r_k_X9_compile) (v1_174 : Int32) (x14_f_174 : Nat → Int32) (x21_6_174 : Int32) (x22_f_174 : Nat → Int32) (x23_f_174 : Nat → Int32) (x24_f_174 : Nat → Int32) (x25_f_174 : Nat → Int32) (x26_f_174 : Nat → Int32) (x27_f_174 : Nat → Int32) (x28_6_174 : Int32) (x29_f_174 : Nat → Int32) (x30_f_174 : Nat → Int32) (x31_f_174 : Nat → Int32) (x32_f_174 : Nat → Int32) (x33_f_174 : Nat → Int32) (x34_f_174 : Nat → Int32) (x8_5_174 : Int32) (x9_0_174 : Int32) (x9_1_174 : Int32) (x9_2_174 : Int32) (x9_3_174 : Int32) : r_k_X9_compile :=
  if kn ≤ v1_174 then
    (x14_f_174, t_153.1, x20_11_101, 0, t_153.2, x21_6_174, x22_f_174, x23_f_174, x24_f_174, x25_f_174, x26_f_174, x27_f_174, x28_6_174, x29_f_174, x30_f_174, x31_f_174, x32_f_174, x33_f_174, x34_f_174, x36_f_40, x37_f_2, x8_5_174, x9_0_174, x9_1_174, x9_2_174, x9_3_174)
  else
    lE (m_k_X9_compileInstance pp rn rf x8_5_174 on x9_0_174 x9_1_174 x9_2_174 x9_3_174 su x14_f_174 kr kv ob x21_6_174 x22_f_174 x23_f_174 x24_f_174 x25_f_174 x26_f_174 x27_f_174 x28_6_174 x29_f_174 x30_f_174 x31_f_174 x32_f_174 x33_f_174 x34_f_174 v1_174) (fun t_187 =>
      rec_174 (v1_174 + 1) t_187.1 t_187.2.1 t_187.2.2.1 t_187.2.2.2.1 t_187.2.2.2.2.1 t_187.2.2.2.2.2.1 t_187.2.2.2.2.2.2.1 t_187.2.2.2.2.2.2.2.1 t_187.2.2.2.2.2.2.2.2.1 t_187.2.2.2.2.2.2.2.2.2.1 t_187.2.2.2.2.2.2.2.2.2.2.1 t_187.2.2.2.2.2.2.2.2.2.2.2.1 t_187.2.2.2.2.2.2.2.2.2.2.2.2.1 t_187.2.2.2.2.2.2.2.2.2.2.2.2.2.1 t_187.2.2.2.2.2.2.2.2.2.2.2.2.2.2.1 t_187.2.2.2.2.2.2.2.2.2.2.2.2.2.2.2.1 t_187.2.2.2.2.2.2.2.2.2.2.2.2.2.2.2.2.1 t_187.2.2.2.2.2.2.2.2.2.2.2.2.2.2.2.2.2.1 t_187.2.2.2.2.2.2.2.2.2.2.2.2.2.2.2.2.2.2.1 t_187.2.2.2.2.2.2.2.2.2.2.2.2.2.2.2.2.2.2.2)
def m_k_X9_compile_174 (pp : pT) (rn : Int32) (rf : Nat → Option Nat) (kn : Int32) (on : Int32) (su : Nat → Int64) (kr : Nat → Int32) (kv : Nat → Int32) (ob : Nat → Int32) (t_153 : r_k_X9_noteRules) (x20_11_101 : Int32) (x36_f_40 : Nat → Int32) (x37_f_2 : Nat → Int32) : Nat → Int32 → (Nat → Int32) → Int32 → (Nat → Int32) → (Nat → Int32) → (Nat → Int32) → (Nat → Int32) → (Nat → Int32) → (Nat → Int32) → Int32 → (Nat → Int32) → (Nat → Int32) → (Nat → Int32) → (Nat → Int32) → (Nat → Int32) → (Nat → Int32) → Int32 → Int32 → Int32 → Int32 → Int32 → r_k_X9_compile
  | 0, _, _, _, _, _, _, _, _, _, _, _, _, _, _, _, _, _, _, _, _, _ => ((fun _ => 0), 0, 0, 0, 0, 0, (fun _ => 0), (fun _ => 0), (fun _ => 0), (fun _ => 0), (fun _ => 0), (fun _ => 0), 0, (fun _ => 0), (fun _ => 0), (fun _ => 0), (fun _ => 0), (fun _ => 0), (fun _ => 0), (fun _ => 0), (fun _ => 0), 0, 0, 0, 0, 0)
  | n + 1, v1_174, x14_f_174, x21_6_174, x22_f_174, x23_f_174, x24_f_174, x25_f_174, x26_f_174, x27_f_174, x28_6_174, x29_f_174, x30_f_174, x31_f_174, x32_f_174, x33_f_174, x34_f_174, x8_5_174, x9_0_174, x9_1_174, x9_2_174, x9_3_174 => m_k_X9_compile_174s pp rn rf kn on su kr kv ob t_153 x20_11_101 x36_f_40 x37_f_2 (fun v1_174 x14_f_174 x21_6_174 x22_f_174 x23_f_174 x24_f_174 x25_f_174 x26_f_174 x27_f_174 x28_6_174 x29_f_174 x30_f_174 x31_f_174 x32_f_174 x33_f_174 x34_f_174 x8_5_174 x9_0_174 x9_1_174 x9_2_174 x9_3_174 => m_k_X9_compile_174 pp rn rf kn on su kr kv ob t_153 x20_11_101 x36_f_40 x37_f_2 n v1_174 x14_f_174 x21_6_174 x22_f_174 x23_f_174 x24_f_174 x25_f_174 x26_f_174 x27_f_174 x28_6_174 x29_f_174 x30_f_174 x31_f_174 x32_f_174 x33_f_174 x34_f_174 x8_5_174 x9_0_174 x9_1_174 x9_2_174 x9_3_174) v1_174 x14_f_174 x21_6_174 x22_f_174 x23_f_174 x24_f_174 x25_f_174 x26_f_174 x27_f_174 x28_6_174 x29_f_174 x30_f_174 x31_f_174 x32_f_174 x33_f_174 x34_f_174 x8_5_174 x9_0_174 x9_1_174 x9_2_174 x9_3_174
theorem m_k_X9_compile_174_succ (pp : pT) (rn : Int32) (rf : Nat → Option Nat) (kn : Int32) (on : Int32) (su : Nat → Int64) (kr : Nat → Int32) (kv : Nat → Int32) (ob : Nat → Int32) (t_153 : r_k_X9_noteRules) (x20_11_101 : Int32) (x36_f_40 : Nat → Int32) (x37_f_2 : Nat → Int32) (n : Nat) (v1_174 : Int32) (x14_f_174 : Nat → Int32) (x21_6_174 : Int32) (x22_f_174 : Nat → Int32) (x23_f_174 : Nat → Int32) (x24_f_174 : Nat → Int32) (x25_f_174 : Nat → Int32) (x26_f_174 : Nat → Int32) (x27_f_174 : Nat → Int32) (x28_6_174 : Int32) (x29_f_174 : Nat → Int32) (x30_f_174 : Nat → Int32) (x31_f_174 : Nat → Int32) (x32_f_174 : Nat → Int32) (x33_f_174 : Nat → Int32) (x34_f_174 : Nat → Int32) (x8_5_174 : Int32) (x9_0_174 : Int32) (x9_1_174 : Int32) (x9_2_174 : Int32) (x9_3_174 : Int32) : m_k_X9_compile_174 pp rn rf kn on su kr kv ob t_153 x20_11_101 x36_f_40 x37_f_2 (n + 1) v1_174 x14_f_174 x21_6_174 x22_f_174 x23_f_174 x24_f_174 x25_f_174 x26_f_174 x27_f_174 x28_6_174 x29_f_174 x30_f_174 x31_f_174 x32_f_174 x33_f_174 x34_f_174 x8_5_174 x9_0_174 x9_1_174 x9_2_174 x9_3_174 = m_k_X9_compile_174s pp rn rf kn on su kr kv ob t_153 x20_11_101 x36_f_40 x37_f_2 (m_k_X9_compile_174 pp rn rf kn on su kr kv ob t_153 x20_11_101 x36_f_40 x37_f_2 n) v1_174 x14_f_174 x21_6_174 x22_f_174 x23_f_174 x24_f_174 x25_f_174 x26_f_174 x27_f_174 x28_6_174 x29_f_174 x30_f_174 x31_f_174 x32_f_174 x33_f_174 x34_f_174 x8_5_174 x9_0_174 x9_1_174 x9_2_174 x9_3_174 := rfl
def m_k_X9_compile_101s (pp : pT) (rn : Int32) (en : Int32) (rf : Nat → Option Nat) (ea : Nat → Int32) (es : Nat → Int32) (hn : Int32) (kn : Int32) (on : Int32) (b_1 : Int32) (b_2 : Int32) (b_3 : Int32) (b_p : Int32) (su : Nat → Int64) (hds : Nat → Int32) (kr : Nat → Int32) (kv : Nat → Int32) (ob : Nat → Int32) (c1 : Nat → Int32) (c2 : Nat → Int32) (c3 : Nat → Int32) (c4 : Nat → Int32) (c5 : Nat → Int32) (c6 : Nat → Int32) (w1 : Nat → Int32) (w2 : Nat → Int32) (w3 : Nat → Int32) (w4 : Nat → Int32) (w5 : Nat → Int32) (w6 : Nat → Int32) (x36_f_40 : Nat → Int32) (x37_f_2 : Nat → Int32) (rec_101 : Int32 → Int32 → r_k_X9_compile) (v1_101 : Int32) (x20_11_101 : Int32) : r_k_X9_compile :=
  if en ≤ v1_101 then
    lE (m_k_X9_noteRules pp rn rf) (fun t_153 =>
      m_k_X9_compile_174 pp rn rf kn on su kr kv ob t_153 x20_11_101 x36_f_40 x37_f_2 wF 0 hds 0 c1 c2 c3 c4 c5 c6 0 w1 w2 w3 w4 w5 w6 hn b_1 b_2 b_3 b_p)
  else
    lE (m_k_X6_externalState en es v1_101) (fun t_117 =>
      if t_117 = 117 then
        lE (m_k_X6_externalAtom en ea v1_101) (fun t_136 =>
          lE (m_k_X9_bitOf on ob t_136) (fun t_139 =>
            m_k_X9_compile_146 rec_101 v1_101 (x20_11_101 ||| t_139)))
      else
        m_k_X9_compile_146 rec_101 v1_101 x20_11_101)
def m_k_X9_compile_101 (pp : pT) (rn : Int32) (en : Int32) (rf : Nat → Option Nat) (ea : Nat → Int32) (es : Nat → Int32) (hn : Int32) (kn : Int32) (on : Int32) (b_1 : Int32) (b_2 : Int32) (b_3 : Int32) (b_p : Int32) (su : Nat → Int64) (hds : Nat → Int32) (kr : Nat → Int32) (kv : Nat → Int32) (ob : Nat → Int32) (c1 : Nat → Int32) (c2 : Nat → Int32) (c3 : Nat → Int32) (c4 : Nat → Int32) (c5 : Nat → Int32) (c6 : Nat → Int32) (w1 : Nat → Int32) (w2 : Nat → Int32) (w3 : Nat → Int32) (w4 : Nat → Int32) (w5 : Nat → Int32) (w6 : Nat → Int32) (x36_f_40 : Nat → Int32) (x37_f_2 : Nat → Int32) : Nat → Int32 → Int32 → r_k_X9_compile
  | 0, _, _ => ((fun _ => 0), 0, 0, 0, 0, 0, (fun _ => 0), (fun _ => 0), (fun _ => 0), (fun _ => 0), (fun _ => 0), (fun _ => 0), 0, (fun _ => 0), (fun _ => 0), (fun _ => 0), (fun _ => 0), (fun _ => 0), (fun _ => 0), (fun _ => 0), (fun _ => 0), 0, 0, 0, 0, 0)
  | n + 1, v1_101, x20_11_101 => m_k_X9_compile_101s pp rn en rf ea es hn kn on b_1 b_2 b_3 b_p su hds kr kv ob c1 c2 c3 c4 c5 c6 w1 w2 w3 w4 w5 w6 x36_f_40 x37_f_2 (fun v1_101 x20_11_101 => m_k_X9_compile_101 pp rn en rf ea es hn kn on b_1 b_2 b_3 b_p su hds kr kv ob c1 c2 c3 c4 c5 c6 w1 w2 w3 w4 w5 w6 x36_f_40 x37_f_2 n v1_101 x20_11_101) v1_101 x20_11_101
theorem m_k_X9_compile_101_succ (pp : pT) (rn : Int32) (en : Int32) (rf : Nat → Option Nat) (ea : Nat → Int32) (es : Nat → Int32) (hn : Int32) (kn : Int32) (on : Int32) (b_1 : Int32) (b_2 : Int32) (b_3 : Int32) (b_p : Int32) (su : Nat → Int64) (hds : Nat → Int32) (kr : Nat → Int32) (kv : Nat → Int32) (ob : Nat → Int32) (c1 : Nat → Int32) (c2 : Nat → Int32) (c3 : Nat → Int32) (c4 : Nat → Int32) (c5 : Nat → Int32) (c6 : Nat → Int32) (w1 : Nat → Int32) (w2 : Nat → Int32) (w3 : Nat → Int32) (w4 : Nat → Int32) (w5 : Nat → Int32) (w6 : Nat → Int32) (x36_f_40 : Nat → Int32) (x37_f_2 : Nat → Int32) (n : Nat) (v1_101 : Int32) (x20_11_101 : Int32) : m_k_X9_compile_101 pp rn en rf ea es hn kn on b_1 b_2 b_3 b_p su hds kr kv ob c1 c2 c3 c4 c5 c6 w1 w2 w3 w4 w5 w6 x36_f_40 x37_f_2 (n + 1) v1_101 x20_11_101 = m_k_X9_compile_101s pp rn en rf ea es hn kn on b_1 b_2 b_3 b_p su hds kr kv ob c1 c2 c3 c4 c5 c6 w1 w2 w3 w4 w5 w6 x36_f_40 x37_f_2 (m_k_X9_compile_101 pp rn en rf ea es hn kn on b_1 b_2 b_3 b_p su hds kr kv ob c1 c2 c3 c4 c5 c6 w1 w2 w3 w4 w5 w6 x36_f_40 x37_f_2 n) v1_101 x20_11_101 := rfl
def m_k_X9_compile_40s (pp : pT) (rn : Int32) (en : Int32) (rf : Nat → Option Nat) (ea : Nat → Int32) (es : Nat → Int32) (hn : Int32) (kn : Int32) (on : Int32) (b_1 : Int32) (b_2 : Int32) (b_3 : Int32) (b_p : Int32) (su : Nat → Int64) (hds : Nat → Int32) (kr : Nat → Int32) (kv : Nat → Int32) (oa : Nat → Int32) (ob : Nat → Int32) (c1 : Nat → Int32) (c2 : Nat → Int32) (c3 : Nat → Int32) (c4 : Nat → Int32) (c5 : Nat → Int32) (c6 : Nat → Int32) (w1 : Nat → Int32) (w2 : Nat → Int32) (w3 : Nat → Int32) (w4 : Nat → Int32) (w5 : Nat → Int32) (w6 : Nat → Int32) (x37_f_2 : Nat → Int32) (rec_40 : Int32 → (Nat → Int32) → r_k_X9_compile) (v1_40 : Int32) (x36_f_40 : Nat → Int32) : r_k_X9_compile :=
  if on ≤ v1_40 then
    m_k_X9_compile_101 pp rn en rf ea es hn kn on b_1 b_2 b_3 b_p su hds kr kv ob c1 c2 c3 c4 c5 c6 w1 w2 w3 w4 w5 w6 x36_f_40 x37_f_2 wF 0 0
  else
    lE (m_k_X3_openAtomAt oa v1_40) (fun t_56 =>
      if t_56 < 0 then
        m_k_X9_compile_88 rec_40 v1_40 x36_f_40
      else
        if 384 ≤ t_56 then
          m_k_X9_compile_88 rec_40 v1_40 x36_f_40
        else
          lE (m_k_X9_bitOf on ob t_56) (fun t_83 =>
            m_k_X9_compile_88 rec_40 v1_40 (upd x36_f_40 ((t_56 / 64).toNatClampNeg) ((x36_f_40 (t_56 / 64).toNatClampNeg) ||| t_83))))
def m_k_X9_compile_40 (pp : pT) (rn : Int32) (en : Int32) (rf : Nat → Option Nat) (ea : Nat → Int32) (es : Nat → Int32) (hn : Int32) (kn : Int32) (on : Int32) (b_1 : Int32) (b_2 : Int32) (b_3 : Int32) (b_p : Int32) (su : Nat → Int64) (hds : Nat → Int32) (kr : Nat → Int32) (kv : Nat → Int32) (oa : Nat → Int32) (ob : Nat → Int32) (c1 : Nat → Int32) (c2 : Nat → Int32) (c3 : Nat → Int32) (c4 : Nat → Int32) (c5 : Nat → Int32) (c6 : Nat → Int32) (w1 : Nat → Int32) (w2 : Nat → Int32) (w3 : Nat → Int32) (w4 : Nat → Int32) (w5 : Nat → Int32) (w6 : Nat → Int32) (x37_f_2 : Nat → Int32) : Nat → Int32 → (Nat → Int32) → r_k_X9_compile
  | 0, _, _ => ((fun _ => 0), 0, 0, 0, 0, 0, (fun _ => 0), (fun _ => 0), (fun _ => 0), (fun _ => 0), (fun _ => 0), (fun _ => 0), 0, (fun _ => 0), (fun _ => 0), (fun _ => 0), (fun _ => 0), (fun _ => 0), (fun _ => 0), (fun _ => 0), (fun _ => 0), 0, 0, 0, 0, 0)
  | n + 1, v1_40, x36_f_40 => m_k_X9_compile_40s pp rn en rf ea es hn kn on b_1 b_2 b_3 b_p su hds kr kv oa ob c1 c2 c3 c4 c5 c6 w1 w2 w3 w4 w5 w6 x37_f_2 (fun v1_40 x36_f_40 => m_k_X9_compile_40 pp rn en rf ea es hn kn on b_1 b_2 b_3 b_p su hds kr kv oa ob c1 c2 c3 c4 c5 c6 w1 w2 w3 w4 w5 w6 x37_f_2 n v1_40 x36_f_40) v1_40 x36_f_40
theorem m_k_X9_compile_40_succ (pp : pT) (rn : Int32) (en : Int32) (rf : Nat → Option Nat) (ea : Nat → Int32) (es : Nat → Int32) (hn : Int32) (kn : Int32) (on : Int32) (b_1 : Int32) (b_2 : Int32) (b_3 : Int32) (b_p : Int32) (su : Nat → Int64) (hds : Nat → Int32) (kr : Nat → Int32) (kv : Nat → Int32) (oa : Nat → Int32) (ob : Nat → Int32) (c1 : Nat → Int32) (c2 : Nat → Int32) (c3 : Nat → Int32) (c4 : Nat → Int32) (c5 : Nat → Int32) (c6 : Nat → Int32) (w1 : Nat → Int32) (w2 : Nat → Int32) (w3 : Nat → Int32) (w4 : Nat → Int32) (w5 : Nat → Int32) (w6 : Nat → Int32) (x37_f_2 : Nat → Int32) (n : Nat) (v1_40 : Int32) (x36_f_40 : Nat → Int32) : m_k_X9_compile_40 pp rn en rf ea es hn kn on b_1 b_2 b_3 b_p su hds kr kv oa ob c1 c2 c3 c4 c5 c6 w1 w2 w3 w4 w5 w6 x37_f_2 (n + 1) v1_40 x36_f_40 = m_k_X9_compile_40s pp rn en rf ea es hn kn on b_1 b_2 b_3 b_p su hds kr kv oa ob c1 c2 c3 c4 c5 c6 w1 w2 w3 w4 w5 w6 x37_f_2 (m_k_X9_compile_40 pp rn en rf ea es hn kn on b_1 b_2 b_3 b_p su hds kr kv oa ob c1 c2 c3 c4 c5 c6 w1 w2 w3 w4 w5 w6 x37_f_2 n) v1_40 x36_f_40 := rfl
def m_k_X9_compile_2s (pp : pT) (rn : Int32) (en : Int32) (rf : Nat → Option Nat) (ea : Nat → Int32) (es : Nat → Int32) (hn : Int32) (kn : Int32) (on : Int32) (b_1 : Int32) (b_2 : Int32) (b_3 : Int32) (b_p : Int32) (su : Nat → Int64) (hds : Nat → Int32) (kr : Nat → Int32) (kv : Nat → Int32) (oa : Nat → Int32) (ob : Nat → Int32) (c1 : Nat → Int32) (c2 : Nat → Int32) (c3 : Nat → Int32) (c4 : Nat → Int32) (c5 : Nat → Int32) (c6 : Nat → Int32) (w1 : Nat → Int32) (w2 : Nat → Int32) (w3 : Nat → Int32) (w4 : Nat → Int32) (w5 : Nat → Int32) (w6 : Nat → Int32) (rec_2 : Int32 → (Nat → Int32) → (Nat → Int32) → r_k_X9_compile) (v1_2 : Int32) (x36_f_2 : Nat → Int32) (x37_f_2 : Nat → Int32) : r_k_X9_compile :=
  if 6 ≤ v1_2 then
    m_k_X9_compile_40 pp rn en rf ea es hn kn on b_1 b_2 b_3 b_p su hds kr kv oa ob c1 c2 c3 c4 c5 c6 w1 w2 w3 w4 w5 w6 x37_f_2 wF 0 x36_f_2
  else
    lE (m_k_X1_countOf su v1_2) (fun t_28 =>
      rec_2 (v1_2 + 1) (upd x36_f_2 v1_2.toNatClampNeg 0) (upd x37_f_2 v1_2.toNatClampNeg t_28))
def m_k_X9_compile_2 (pp : pT) (rn : Int32) (en : Int32) (rf : Nat → Option Nat) (ea : Nat → Int32) (es : Nat → Int32) (hn : Int32) (kn : Int32) (on : Int32) (b_1 : Int32) (b_2 : Int32) (b_3 : Int32) (b_p : Int32) (su : Nat → Int64) (hds : Nat → Int32) (kr : Nat → Int32) (kv : Nat → Int32) (oa : Nat → Int32) (ob : Nat → Int32) (c1 : Nat → Int32) (c2 : Nat → Int32) (c3 : Nat → Int32) (c4 : Nat → Int32) (c5 : Nat → Int32) (c6 : Nat → Int32) (w1 : Nat → Int32) (w2 : Nat → Int32) (w3 : Nat → Int32) (w4 : Nat → Int32) (w5 : Nat → Int32) (w6 : Nat → Int32) : Nat → Int32 → (Nat → Int32) → (Nat → Int32) → r_k_X9_compile
  | 0, _, _, _ => ((fun _ => 0), 0, 0, 0, 0, 0, (fun _ => 0), (fun _ => 0), (fun _ => 0), (fun _ => 0), (fun _ => 0), (fun _ => 0), 0, (fun _ => 0), (fun _ => 0), (fun _ => 0), (fun _ => 0), (fun _ => 0), (fun _ => 0), (fun _ => 0), (fun _ => 0), 0, 0, 0, 0, 0)
  | n + 1, v1_2, x36_f_2, x37_f_2 => m_k_X9_compile_2s pp rn en rf ea es hn kn on b_1 b_2 b_3 b_p su hds kr kv oa ob c1 c2 c3 c4 c5 c6 w1 w2 w3 w4 w5 w6 (fun v1_2 x36_f_2 x37_f_2 => m_k_X9_compile_2 pp rn en rf ea es hn kn on b_1 b_2 b_3 b_p su hds kr kv oa ob c1 c2 c3 c4 c5 c6 w1 w2 w3 w4 w5 w6 n v1_2 x36_f_2 x37_f_2) v1_2 x36_f_2 x37_f_2
theorem m_k_X9_compile_2_succ (pp : pT) (rn : Int32) (en : Int32) (rf : Nat → Option Nat) (ea : Nat → Int32) (es : Nat → Int32) (hn : Int32) (kn : Int32) (on : Int32) (b_1 : Int32) (b_2 : Int32) (b_3 : Int32) (b_p : Int32) (su : Nat → Int64) (hds : Nat → Int32) (kr : Nat → Int32) (kv : Nat → Int32) (oa : Nat → Int32) (ob : Nat → Int32) (c1 : Nat → Int32) (c2 : Nat → Int32) (c3 : Nat → Int32) (c4 : Nat → Int32) (c5 : Nat → Int32) (c6 : Nat → Int32) (w1 : Nat → Int32) (w2 : Nat → Int32) (w3 : Nat → Int32) (w4 : Nat → Int32) (w5 : Nat → Int32) (w6 : Nat → Int32) (n : Nat) (v1_2 : Int32) (x36_f_2 : Nat → Int32) (x37_f_2 : Nat → Int32) : m_k_X9_compile_2 pp rn en rf ea es hn kn on b_1 b_2 b_3 b_p su hds kr kv oa ob c1 c2 c3 c4 c5 c6 w1 w2 w3 w4 w5 w6 (n + 1) v1_2 x36_f_2 x37_f_2 = m_k_X9_compile_2s pp rn en rf ea es hn kn on b_1 b_2 b_3 b_p su hds kr kv oa ob c1 c2 c3 c4 c5 c6 w1 w2 w3 w4 w5 w6 (m_k_X9_compile_2 pp rn en rf ea es hn kn on b_1 b_2 b_3 b_p su hds kr kv oa ob c1 c2 c3 c4 c5 c6 w1 w2 w3 w4 w5 w6 n) v1_2 x36_f_2 x37_f_2 := rfl
def m_k_X9_compile (pp : pT) (rn : Int32) (en : Int32) (rf : Nat → Option Nat) (ea : Nat → Int32) (es : Nat → Int32) (hn : Int32) (kn : Int32) (on : Int32) (b_1 : Int32) (b_2 : Int32) (b_3 : Int32) (b_p : Int32) (su : Nat → Int64) (hds : Nat → Int32) (kr : Nat → Int32) (kv : Nat → Int32) (oa : Nat → Int32) (ob : Nat → Int32) (c1 : Nat → Int32) (c2 : Nat → Int32) (c3 : Nat → Int32) (c4 : Nat → Int32) (c5 : Nat → Int32) (c6 : Nat → Int32) (w1 : Nat → Int32) (w2 : Nat → Int32) (w3 : Nat → Int32) (w4 : Nat → Int32) (w5 : Nat → Int32) (w6 : Nat → Int32) (obi : Nat → Int32) (sc : Nat → Int32) : r_k_X9_compile :=
  m_k_X9_compile_2 pp rn en rf ea es hn kn on b_1 b_2 b_3 b_p su hds kr kv oa ob c1 c2 c3 c4 c5 c6 w1 w2 w3 w4 w5 w6 wF 0 obi sc
def vs_k_X9_compile : List Cond := .code yX9_compile cX9_compile 3 none :: ([.fieldLink RX9 38 "AnswerFold$Solver" "grounding" "LAnswerFold$Grounding;", .fieldLink RX9 75 "AnswerFold$Solver" "freeBits" "I", .fieldLink RX9 34 "AnswerFold$Solver" "program" "LAnswerFold$Program;", .methodLink RX9 90 yX9_noteRules, .instanceMethod yX9_noteRules, .selects RX9 yX9_noteRules yX9_noteRules, .initialized RX9, .fieldLink RX9 12 "AnswerFold$Solver" "checks" "LAnswerFold$Rows;", .fieldLink RX9 18 "AnswerFold$Solver" "weaks" "LAnswerFold$Rows;", .fieldLink RX9 103 "AnswerFold$Solver" "lastBroken" "I", .methodLink RX9 99 yX9_compileInstance, .instanceMethod yX9_compileInstance, .selects RX9 yX9_compileInstance yX9_compileInstance, .methodLink RX9 83 yX6_externalState, .instanceMethod yX6_externalState, .selects RX6 yX6_externalState yX6_externalState, .initialized RX6, .methodLink RX9 87 yX6_externalAtom, .instanceMethod yX6_externalAtom, .selects RX6 yX6_externalAtom yX6_externalAtom, .methodLink RX9 72 yX9_bitOf, .instanceMethod yX9_bitOf, .selects RX9 yX9_bitOf yX9_bitOf, .methodLink RX9 69 yX3_openAtomAt, .instanceMethod yX3_openAtomAt, .selects RX3 yX3_openAtomAt yX3_openAtomAt, .initialized RX3, .fieldLink RX9 25 "AnswerFold$Solver" "openBits" "[I", .fieldLink RX9 28 "AnswerFold$Solver" "sureCounts" "[I", .methodLink RX9 59 yX1_countOf, .instanceMethod yX1_countOf, .selects RX1 yX1_countOf yX1_countOf, .initialized RX1] ++ (u_ws RX9 TX9 17 ++ (u_ws RX3 TX3 16 ++ (u_ws RX6 TX6 10 ++ (vs_k_X9_noteRules ++ (u_ws RX7 TX7 7 ++ (vs_k_X9_compileInstance ++ (vs_k_X6_externalState ++ (vs_k_X6_externalAtom ++ (vs_k_X9_bitOf ++ (vs_k_X3_openAtomAt ++ (vs_k_X1_countOf))))))))))))
theorem iv_k_X9_compile_X3 : ∀ w ∈ u_ws RX3 TX3 16, w ∈ vs_k_X9_compile := (fun _ h => List.mem_cons_of_mem _ (List.mem_append_right _ (List.mem_append_right _ (List.mem_append_left _ h))))
theorem iv_k_X9_compile_X6 : ∀ w ∈ u_ws RX6 TX6 10, w ∈ vs_k_X9_compile := (fun _ h => List.mem_cons_of_mem _ (List.mem_append_right _ (List.mem_append_right _ (List.mem_append_right _ (List.mem_append_left _ h)))))
theorem iv_k_X9_compile_X7 : ∀ w ∈ u_ws RX7 TX7 7, w ∈ vs_k_X9_compile := (fun _ h => List.mem_cons_of_mem _ (List.mem_append_right _ (List.mem_append_right _ (List.mem_append_right _ (List.mem_append_right _ (List.mem_append_right _ (List.mem_append_left _ h)))))))
theorem iv_k_X9_compile_X9 : ∀ w ∈ u_ws RX9 TX9 17, w ∈ vs_k_X9_compile := (fun _ h => List.mem_cons_of_mem _ (List.mem_append_right _ (List.mem_append_left _ h)))
set_option maxRecDepth 20000 in
theorem gv_k_X9_compile_0 : GoodIn vs_k_X9_compile (wsV RX9 90 RX9 yX9_noteRules vs_k_X9_noteRules) := goodIn_app (goodIn_sub (by decide +kernel) (by decide +kernel)) (goodIn_sub (fun _ h => List.mem_cons_of_mem _ (List.mem_append_right _ (List.mem_append_right _ (List.mem_append_right _ (List.mem_append_right _ (List.mem_append_left _ h)))))) (by decide +kernel))
set_option maxRecDepth 20000 in
theorem gv_k_X9_compile_1 : GoodIn vs_k_X9_compile (wsV RX9 99 RX9 yX9_compileInstance vs_k_X9_compileInstance) := goodIn_app (goodIn_sub (by decide +kernel) (by decide +kernel)) (goodIn_sub (fun _ h => List.mem_cons_of_mem _ (List.mem_append_right _ (List.mem_append_right _ (List.mem_append_right _ (List.mem_append_right _ (List.mem_append_right _ (List.mem_append_right _ (List.mem_append_left _ h)))))))) (by decide +kernel))
set_option maxRecDepth 20000 in
theorem gv_k_X9_compile_2 : GoodIn vs_k_X9_compile (wsV RX9 83 RX6 yX6_externalState vs_k_X6_externalState) := goodIn_app (goodIn_sub (by decide +kernel) (by decide +kernel)) (goodIn_sub (fun _ h => List.mem_cons_of_mem _ (List.mem_append_right _ (List.mem_append_right _ (List.mem_append_right _ (List.mem_append_right _ (List.mem_append_right _ (List.mem_append_right _ (List.mem_append_right _ (List.mem_append_left _ h))))))))) (by decide +kernel))
set_option maxRecDepth 20000 in
theorem gv_k_X9_compile_3 : GoodIn vs_k_X9_compile (wsV RX9 87 RX6 yX6_externalAtom vs_k_X6_externalAtom) := goodIn_app (goodIn_sub (by decide +kernel) (by decide +kernel)) (goodIn_sub (fun _ h => List.mem_cons_of_mem _ (List.mem_append_right _ (List.mem_append_right _ (List.mem_append_right _ (List.mem_append_right _ (List.mem_append_right _ (List.mem_append_right _ (List.mem_append_right _ (List.mem_append_right _ (List.mem_append_left _ h)))))))))) (by decide +kernel))
set_option maxRecDepth 20000 in
theorem gv_k_X9_compile_4 : GoodIn vs_k_X9_compile (wsV RX9 72 RX9 yX9_bitOf vs_k_X9_bitOf) := goodIn_app (goodIn_sub (by decide +kernel) (by decide +kernel)) (goodIn_sub (fun _ h => List.mem_cons_of_mem _ (List.mem_append_right _ (List.mem_append_right _ (List.mem_append_right _ (List.mem_append_right _ (List.mem_append_right _ (List.mem_append_right _ (List.mem_append_right _ (List.mem_append_right _ (List.mem_append_right _ (List.mem_append_left _ h))))))))))) (by decide +kernel))
set_option maxRecDepth 20000 in
theorem gv_k_X9_compile_5 : GoodIn vs_k_X9_compile (wsV RX9 69 RX3 yX3_openAtomAt vs_k_X3_openAtomAt) := goodIn_app (goodIn_sub (by decide +kernel) (by decide +kernel)) (goodIn_sub (fun _ h => List.mem_cons_of_mem _ (List.mem_append_right _ (List.mem_append_right _ (List.mem_append_right _ (List.mem_append_right _ (List.mem_append_right _ (List.mem_append_right _ (List.mem_append_right _ (List.mem_append_right _ (List.mem_append_right _ (List.mem_append_right _ (List.mem_append_left _ h)))))))))))) (by decide +kernel))
set_option maxRecDepth 20000 in
theorem gv_k_X9_compile_6 : GoodIn vs_k_X9_compile (wsV RX9 72 RX9 yX9_bitOf vs_k_X9_bitOf) := goodIn_app (goodIn_sub (by decide +kernel) (by decide +kernel)) (goodIn_sub (fun _ h => List.mem_cons_of_mem _ (List.mem_append_right _ (List.mem_append_right _ (List.mem_append_right _ (List.mem_append_right _ (List.mem_append_right _ (List.mem_append_right _ (List.mem_append_right _ (List.mem_append_right _ (List.mem_append_right _ (List.mem_append_left _ h))))))))))) (by decide +kernel))
set_option maxRecDepth 20000 in
theorem gv_k_X9_compile_7 : GoodIn vs_k_X9_compile (wsV RX9 59 RX1 yX1_countOf vs_k_X1_countOf) := goodIn_app (goodIn_sub (by decide +kernel) (by decide +kernel)) (goodIn_sub (fun _ h => List.mem_cons_of_mem _ (List.mem_append_right _ (List.mem_append_right _ (List.mem_append_right _ (List.mem_append_right _ (List.mem_append_right _ (List.mem_append_right _ (List.mem_append_right _ (List.mem_append_right _ (List.mem_append_right _ (List.mem_append_right _ (List.mem_append_right _ (h))))))))))))) (by decide +kernel))
set_option maxHeartbeats 4000000 in
set_option maxRecDepth 100000 in
theorem k_X9_compile (l : Launch) (D : va_G) (ty : Nat → ClassId) (td mi sz : Nat) (pp : pT) (X : Nat → Nat) (pn : Int32) (rn : Int32) (tn : Int32) (en : Int32) (rf : Nat → Option Nat) (ea : Nat → Int32) (es : Nat → Int32) (hn : Int32) (kn : Int32) (on : Int32) (cu : Int32) (pu : Int32) (gw : Int32) (b_1 : Int32) (b_2 : Int32) (b_3 : Int32) (b_p : Int32) (su : Nat → Int64) (hds : Nat → Int32) (kr : Nat → Int32) (kv : Nat → Int32) (oa : Nat → Int32) (ob : Nat → Int32) (an : Int32) (ch : Int32) (cg : Int32) (fb : Int32) (mh : Int32) (ml : Int32) (ih : Int32) (lb : Int32) (ic : Int32) (cn : Int32) (c1 : Nat → Int32) (c2 : Nat → Int32) (c3 : Nat → Int32) (c4 : Nat → Int32) (c5 : Nat → Int32) (c6 : Nat → Int32) (wn : Int32) (w1 : Nat → Int32) (w2 : Nat → Int32) (w3 : Nat → Int32) (w4 : Nat → Int32) (w5 : Nat → Int32) (w6 : Nat → Int32) (obi : Nat → Int32) (sc : Nat → Int32) (hok : pOK pp) (hru : ∀ (i a : Nat), rf i = some a → a ∈ pRA pp) (hch : ∀ i : Nat, narrow .char (.int (es i)) = .int (es i)) (TT : r_k_X9_compile) (hTT : TT = m_k_X9_compile pp rn en rf ea es hn kn on b_1 b_2 b_3 b_p su hds kr kv oa ob c1 c2 c3 c4 c5 c6 w1 w2 w3 w4 w5 w6 obi sc) : Met l yX9_compile vs_k_X9_compile { frames := 5, cells := 0, slots := 0, locals := 126 } (va_Pc [.ref (X 20)] (wq_P D ty td mi ((wW_k_X9_compile ty X pn rn tn en rf ea es hn kn on cu pu gw b_1 b_2 b_3 b_p su hds kr kv oa ob an ch cg fb mh ml ih lb ic cn c1 c2 c3 c4 c5 c6 wn w1 w2 w3 w4 w5 w6 obi sc) ++ pw ty pp) sz)) (va_Qv (fun u : va_W => ((u = ((wW_k_X9_compile ty X pn rn tn en rf ea es TT.2.2.2.2.2.2.2.2.2.2.2.2.2.2.2.2.2.2.2.2.2.1 kn on cu pu gw TT.2.2.2.2.2.2.2.2.2.2.2.2.2.2.2.2.2.2.2.2.2.2.1 TT.2.2.2.2.2.2.2.2.2.2.2.2.2.2.2.2.2.2.2.2.2.2.2.1 TT.2.2.2.2.2.2.2.2.2.2.2.2.2.2.2.2.2.2.2.2.2.2.2.2.1 TT.2.2.2.2.2.2.2.2.2.2.2.2.2.2.2.2.2.2.2.2.2.2.2.2.2 su TT.1 kr kv oa ob an TT.2.2.2.2.1 TT.2.1 TT.2.2.1 mh ml ih TT.2.2.2.1 ic TT.2.2.2.2.2.1 TT.2.2.2.2.2.2.1 TT.2.2.2.2.2.2.2.1 TT.2.2.2.2.2.2.2.2.1 TT.2.2.2.2.2.2.2.2.2.1 TT.2.2.2.2.2.2.2.2.2.2.1 TT.2.2.2.2.2.2.2.2.2.2.2.1 TT.2.2.2.2.2.2.2.2.2.2.2.2.1 TT.2.2.2.2.2.2.2.2.2.2.2.2.2.1 TT.2.2.2.2.2.2.2.2.2.2.2.2.2.2.1 TT.2.2.2.2.2.2.2.2.2.2.2.2.2.2.2.1 TT.2.2.2.2.2.2.2.2.2.2.2.2.2.2.2.2.1 TT.2.2.2.2.2.2.2.2.2.2.2.2.2.2.2.2.2.1 TT.2.2.2.2.2.2.2.2.2.2.2.2.2.2.2.2.2.2.1 TT.2.2.2.2.2.2.2.2.2.2.2.2.2.2.2.2.2.2.2.1 TT.2.2.2.2.2.2.2.2.2.2.2.2.2.2.2.2.2.2.2.2.1) ++ pw ty pp)))) (wq_B D (va_A ((wW_k_X9_compile ty X pn rn tn en rf ea es hn kn on cu pu gw b_1 b_2 b_3 b_p su hds kr kv oa ob an ch cg fb mh ml ih lb ic cn c1 c2 c3 c4 c5 c6 wn w1 w2 w3 w4 w5 w6 obi sc) ++ pw ty pp) sz)) (va_A ((wW_k_X9_compile ty X pn rn tn en rf ea es hn kn on cu pu gw b_1 b_2 b_3 b_p su hds kr kv oa ob an ch cg fb mh ml ih lb ic cn c1 c2 c3 c4 c5 c6 wn w1 w2 w3 w4 w5 w6 obi sc) ++ pw ty pp) sz)) 0 0 (va_A ((wW_k_X9_compile ty X pn rn tn en rf ea es hn kn on cu pu gw b_1 b_2 b_3 b_p su hds kr kv oa ob an ch cg fb mh ml ih lb ic cn c1 c2 c3 c4 c5 c6 wn w1 w2 w3 w4 w5 w6 obi sc) ++ pw ty pp) sz) := by
  refine Met.ofW (cc := cX9_compile) (maxL := 3) (ret := none) (by decide) rfl ?_
  intro p e s m args below meth c s₁ B hml hv
  obtain ⟨rfl, hsz, hP, hK, hD0, hE⟩ := hv
  have hx := B.exec
  have hb := B.bytes
  have hr := B.returns
  have hts := atoms_spec (ws := vs_k_X9_compile) B.pre
  have hown : s.vm.findClass RX9 = some m.cls := findClass_of_methodNamed B.named
  have hlocks := B.notSynchronized
  subst hsz
  have hD := hD0.self (sz := s.heap.size)
  generalize hAe : va_A ((wW_k_X9_compile ty X pn rn tn en rf ea es hn kn on cu pu gw b_1 b_2 b_3 b_p su hds kr kv oa ob an ch cg fb mh ml ih lb ic cn c1 c2 c3 c4 c5 c6 wn w1 w2 w3 w4 w5 w6 obi sc) ++ pw ty pp) s.heap.size = A at hD hE ⊢
  have hA : ∀ q : Nat, s.heap.size ≤ q → A q := fun q h => by rw [← hAe]; exact Or.inr h
  have hS : va_S A s.heap s.heap [] := va_S.rf
  have hP : va_P D vwCl ((wW_k_X9_compile ty X pn rn tn en rf ea es hn kn on cu pu gw b_1 b_2 b_3 b_p su hds kr kv oa ob an ch cg fb mh ml ih lb ic cn c1 c2 c3 c4 c5 c6 wn w1 w2 w3 w4 w5 w6 obi sc) ++ pw ty pp) s.heap := hP
  have hl := lv_entry ([.ref (X 20)]) (n := 3) (Nat.le_of_ble_eq_true rfl)
  rw [lg_entry_eq]
  generalize (lg_sl ([.ref (X 20)]) ++ List.replicate (3 - (lg_sl ([.ref (X 20)])).length) Slot.unset).toArray = ls at hl ⊢
  have hl : lv_has ls 3 [(0, .ref (X 20))] := hl
  have END : ∀ (e0 : Nat → Int32) (e1 : Int32) (e2 : Int32) (e3 : Int32) (e4 : Int32) (e5 : Int32) (e6 : Nat → Int32) (e7 : Nat → Int32) (e8 : Nat → Int32) (e9 : Nat → Int32) (e10 : Nat → Int32) (e11 : Nat → Int32) (e12 : Int32) (e13 : Nat → Int32) (e14 : Nat → Int32) (e15 : Nat → Int32) (e16 : Nat → Int32) (e17 : Nat → Int32) (e18 : Nat → Int32) (e19 : Nat → Int32) (e20 : Nat → Int32) (e21 : Int32) (e22 : Int32) (e23 : Int32) (e24 : Int32) (e25 : Int32), TT = (e0, e1, e2, e3, e4, e5, e6, e7, e8, e9, e10, e11, e12, e13, e14, e15, e16, e17, e18, e19, e20, e21, e22, e23, e24, e25) → ∀ (H : Heap) (locs : List Loc), va_P D vwCl ((wW_k_X9_compile ty X pn rn tn en rf ea es e21 kn on cu pu gw e22 e23 e24 e25 su e0 kr kv oa ob an e4 e1 e2 mh ml ih e3 ic e5 e6 e7 e8 e9 e10 e11 e12 e13 e14 e15 e16 e17 e18 e19 e20) ++ pw ty pp) H → va_D A ((wW_k_X9_compile ty X pn rn tn en rf ea es e21 kn on cu pu gw e22 e23 e24 e25 su e0 kr kv oa ob an e4 e1 e2 mh ml ih e3 ic e5 e6 e7 e8 e9 e10 e11 e12 e13 e14 e15 e16 e17 e18 e19 e20) ++ pw ty pp) → va_S A s.heap H locs → ∀ (ls : Array Slot) (pc : Nat), decode cX9_compile pc = .ok (.return_, 1) → W p l e (headSpec vs_k_X9_compile { frames := 5, cells := 0, slots := 0, locals := 126 }).room s m ([.ref (X 20)] : List Value).toArray below meth c H locs 0 0 (MQ below (va_Qv (fun u : va_W => ((u = ((wW_k_X9_compile ty X pn rn tn en rf ea es TT.2.2.2.2.2.2.2.2.2.2.2.2.2.2.2.2.2.2.2.2.2.1 kn on cu pu gw TT.2.2.2.2.2.2.2.2.2.2.2.2.2.2.2.2.2.2.2.2.2.2.1 TT.2.2.2.2.2.2.2.2.2.2.2.2.2.2.2.2.2.2.2.2.2.2.2.1 TT.2.2.2.2.2.2.2.2.2.2.2.2.2.2.2.2.2.2.2.2.2.2.2.2.1 TT.2.2.2.2.2.2.2.2.2.2.2.2.2.2.2.2.2.2.2.2.2.2.2.2.2 su TT.1 kr kv oa ob an TT.2.2.2.2.1 TT.2.1 TT.2.2.1 mh ml ih TT.2.2.2.1 ic TT.2.2.2.2.2.1 TT.2.2.2.2.2.2.1 TT.2.2.2.2.2.2.2.1 TT.2.2.2.2.2.2.2.2.1 TT.2.2.2.2.2.2.2.2.2.1 TT.2.2.2.2.2.2.2.2.2.2.1 TT.2.2.2.2.2.2.2.2.2.2.2.1 TT.2.2.2.2.2.2.2.2.2.2.2.2.1 TT.2.2.2.2.2.2.2.2.2.2.2.2.2.1 TT.2.2.2.2.2.2.2.2.2.2.2.2.2.2.1 TT.2.2.2.2.2.2.2.2.2.2.2.2.2.2.2.1 TT.2.2.2.2.2.2.2.2.2.2.2.2.2.2.2.2.1 TT.2.2.2.2.2.2.2.2.2.2.2.2.2.2.2.2.2.1 TT.2.2.2.2.2.2.2.2.2.2.2.2.2.2.2.2.2.2.1 TT.2.2.2.2.2.2.2.2.2.2.2.2.2.2.2.2.2.2.2.1 TT.2.2.2.2.2.2.2.2.2.2.2.2.2.2.2.2.2.2.2.2.1) ++ pw ty pp)))) (wq_B D A) A) ([.ref (X 20)] : List Value).toArray s 0 0 A) (F0 m pc ls []) := by
    intro e0 e1 e2 e3 e4 e5 e6 e7 e8 e9 e10 e11 e12 e13 e14 e15 e16 e17 e18 e19 e20 e21 e22 e23 e24 e25 hT H locs hP hD hS ls pc hd
    have hM : TT = (e0, e1, e2, e3, e4, e5, e6, e7, e8, e9, e10, e11, e12, e13, e14, e15, e16, e17, e18, e19, e20, e21, e22, e23, e24, e25) := hT
    exact W.vret hx hb hr (fun t ht hW => ⟨⟨((wW_k_X9_compile ty X pn rn tn en rf ea es e21 kn on cu pu gw e22 e23 e24 e25 su e0 kr kv oa ob an e4 e1 e2 mh ml ih e3 ic e5 e6 e7 e8 e9 e10 e11 e12 e13 e14 e15 e16 e17 e18 e19 e20) ++ pw ty pp), rfl, (by rw [hM]), wq_B.of ht hP hD⟩, hS.F ht⟩) hS.2.2 hd
  have hT := hTT
  rw [m_k_X9_compile] at hT
  refine lv_iconst (v := 0) hx hb dX9_compile_0 (by decide) ?_
  refine lv_istore_n (lv' := [(1, .int 0), (0, .ref (X 20))]) hx hb dX9_compile_1 rfl hl (by decide) rfl (fun ls hl => ?_)
  have L_2 : ∀ (n_2 : Nat) (v1_2 : Int32) (x36_f_2 : Nat → Int32) (x37_f_2 : Nat → Int32), (2147483648 - v1_2.toInt).toNat < n_2 → TT = m_k_X9_compile_2 pp rn en rf ea es hn kn on b_1 b_2 b_3 b_p su hds kr kv oa ob c1 c2 c3 c4 c5 c6 w1 w2 w3 w4 w5 w6 n_2 v1_2 x36_f_2 x37_f_2 → 0 ≤ v1_2.toInt → ∀ (H : Heap) (locs : List Loc), va_P D vwCl ((wW_k_X9_compile ty X pn rn tn en rf ea es hn kn on cu pu gw b_1 b_2 b_3 b_p su hds kr kv oa ob an ch cg fb mh ml ih lb ic cn c1 c2 c3 c4 c5 c6 wn w1 w2 w3 w4 w5 w6 x36_f_2 x37_f_2) ++ pw ty pp) H → va_D A ((wW_k_X9_compile ty X pn rn tn en rf ea es hn kn on cu pu gw b_1 b_2 b_3 b_p su hds kr kv oa ob an ch cg fb mh ml ih lb ic cn c1 c2 c3 c4 c5 c6 wn w1 w2 w3 w4 w5 w6 x36_f_2 x37_f_2) ++ pw ty pp) → va_S A s.heap H locs → ∀ ls : Array Slot, lv_has ls 3 [(0, .ref (X 20)), (1, .int v1_2)] → W p l e (headSpec vs_k_X9_compile { frames := 5, cells := 0, slots := 0, locals := 126 }).room s m ([.ref (X 20)] : List Value).toArray below meth c H locs 0 0 (MQ below (va_Qv (fun u : va_W => ((u = ((wW_k_X9_compile ty X pn rn tn en rf ea es TT.2.2.2.2.2.2.2.2.2.2.2.2.2.2.2.2.2.2.2.2.2.1 kn on cu pu gw TT.2.2.2.2.2.2.2.2.2.2.2.2.2.2.2.2.2.2.2.2.2.2.1 TT.2.2.2.2.2.2.2.2.2.2.2.2.2.2.2.2.2.2.2.2.2.2.2.1 TT.2.2.2.2.2.2.2.2.2.2.2.2.2.2.2.2.2.2.2.2.2.2.2.2.1 TT.2.2.2.2.2.2.2.2.2.2.2.2.2.2.2.2.2.2.2.2.2.2.2.2.2 su TT.1 kr kv oa ob an TT.2.2.2.2.1 TT.2.1 TT.2.2.1 mh ml ih TT.2.2.2.1 ic TT.2.2.2.2.2.1 TT.2.2.2.2.2.2.1 TT.2.2.2.2.2.2.2.1 TT.2.2.2.2.2.2.2.2.1 TT.2.2.2.2.2.2.2.2.2.1 TT.2.2.2.2.2.2.2.2.2.2.1 TT.2.2.2.2.2.2.2.2.2.2.2.1 TT.2.2.2.2.2.2.2.2.2.2.2.2.1 TT.2.2.2.2.2.2.2.2.2.2.2.2.2.1 TT.2.2.2.2.2.2.2.2.2.2.2.2.2.2.1 TT.2.2.2.2.2.2.2.2.2.2.2.2.2.2.2.1 TT.2.2.2.2.2.2.2.2.2.2.2.2.2.2.2.2.1 TT.2.2.2.2.2.2.2.2.2.2.2.2.2.2.2.2.2.1 TT.2.2.2.2.2.2.2.2.2.2.2.2.2.2.2.2.2.2.1 TT.2.2.2.2.2.2.2.2.2.2.2.2.2.2.2.2.2.2.2.1 TT.2.2.2.2.2.2.2.2.2.2.2.2.2.2.2.2.2.2.2.2.1) ++ pw ty pp)))) (wq_B D A) A) ([.ref (X 20)] : List Value).toArray s 0 0 A) (F0 m 2 ls []) := by
    intro n_2
    induction n_2 with
    | zero => intro v1_2 x36_f_2 x37_f_2 hu; exact absurd hu (Nat.not_lt_zero _)
    | succ n_2 ih_2 =>
      intro v1_2 x36_f_2 x37_f_2 hu_2 hT hn_2 H locs hP hD hS ls hl
      rw [m_k_X9_compile_2_succ, m_k_X9_compile_2s] at hT
      refine lv_iload_n hx hb dX9_compile_2 rfl (lv_at hl 1 rfl) ?_
      refine lv_bipush (v := 6) hx hb dX9_compile_3 (by decide) ?_
      refine lv_icmp_ge (tgt := 38) hx hb dX9_compile_5 (by decide) (fun c_1 => ?_) (fun c_1 => ?_)
      · rw [if_pos c_1] at hT
        refine lv_iconst (v := 0) hx hb dX9_compile_38 (by decide) ?_
        refine lv_istore_n (lv' := [(1, .int 0), (0, .ref (X 20))]) hx hb dX9_compile_39 rfl hl (by decide) rfl (fun ls hl => ?_)
        have L_40 : ∀ (n_40 : Nat) (v1_40 : Int32) (x36_f_40 : Nat → Int32), (2147483648 - v1_40.toInt).toNat < n_40 → TT = m_k_X9_compile_40 pp rn en rf ea es hn kn on b_1 b_2 b_3 b_p su hds kr kv oa ob c1 c2 c3 c4 c5 c6 w1 w2 w3 w4 w5 w6 x37_f_2 n_40 v1_40 x36_f_40 → 0 ≤ v1_40.toInt → ∀ (H : Heap) (locs : List Loc), va_P D vwCl ((wW_k_X9_compile ty X pn rn tn en rf ea es hn kn on cu pu gw b_1 b_2 b_3 b_p su hds kr kv oa ob an ch cg fb mh ml ih lb ic cn c1 c2 c3 c4 c5 c6 wn w1 w2 w3 w4 w5 w6 x36_f_40 x37_f_2) ++ pw ty pp) H → va_D A ((wW_k_X9_compile ty X pn rn tn en rf ea es hn kn on cu pu gw b_1 b_2 b_3 b_p su hds kr kv oa ob an ch cg fb mh ml ih lb ic cn c1 c2 c3 c4 c5 c6 wn w1 w2 w3 w4 w5 w6 x36_f_40 x37_f_2) ++ pw ty pp) → va_S A s.heap H locs → ∀ ls : Array Slot, lv_has ls 3 [(0, .ref (X 20)), (1, .int v1_40)] → W p l e (headSpec vs_k_X9_compile { frames := 5, cells := 0, slots := 0, locals := 126 }).room s m ([.ref (X 20)] : List Value).toArray below meth c H locs 0 0 (MQ below (va_Qv (fun u : va_W => ((u = ((wW_k_X9_compile ty X pn rn tn en rf ea es TT.2.2.2.2.2.2.2.2.2.2.2.2.2.2.2.2.2.2.2.2.2.1 kn on cu pu gw TT.2.2.2.2.2.2.2.2.2.2.2.2.2.2.2.2.2.2.2.2.2.2.1 TT.2.2.2.2.2.2.2.2.2.2.2.2.2.2.2.2.2.2.2.2.2.2.2.1 TT.2.2.2.2.2.2.2.2.2.2.2.2.2.2.2.2.2.2.2.2.2.2.2.2.1 TT.2.2.2.2.2.2.2.2.2.2.2.2.2.2.2.2.2.2.2.2.2.2.2.2.2 su TT.1 kr kv oa ob an TT.2.2.2.2.1 TT.2.1 TT.2.2.1 mh ml ih TT.2.2.2.1 ic TT.2.2.2.2.2.1 TT.2.2.2.2.2.2.1 TT.2.2.2.2.2.2.2.1 TT.2.2.2.2.2.2.2.2.1 TT.2.2.2.2.2.2.2.2.2.1 TT.2.2.2.2.2.2.2.2.2.2.1 TT.2.2.2.2.2.2.2.2.2.2.2.1 TT.2.2.2.2.2.2.2.2.2.2.2.2.1 TT.2.2.2.2.2.2.2.2.2.2.2.2.2.1 TT.2.2.2.2.2.2.2.2.2.2.2.2.2.2.1 TT.2.2.2.2.2.2.2.2.2.2.2.2.2.2.2.1 TT.2.2.2.2.2.2.2.2.2.2.2.2.2.2.2.2.1 TT.2.2.2.2.2.2.2.2.2.2.2.2.2.2.2.2.2.1 TT.2.2.2.2.2.2.2.2.2.2.2.2.2.2.2.2.2.2.1 TT.2.2.2.2.2.2.2.2.2.2.2.2.2.2.2.2.2.2.2.1 TT.2.2.2.2.2.2.2.2.2.2.2.2.2.2.2.2.2.2.2.2.1) ++ pw ty pp)))) (wq_B D A) A) ([.ref (X 20)] : List Value).toArray s 0 0 A) (F0 m 40 ls []) := by
          intro n_40
          induction n_40 with
          | zero => intro v1_40 x36_f_40 hu; exact absurd hu (Nat.not_lt_zero _)
          | succ n_40 ih_40 =>
            intro v1_40 x36_f_40 hu_40 hT hn_40 H locs hP hD hS ls hl
            rw [m_k_X9_compile_40_succ, m_k_X9_compile_40s] at hT
            refine lv_iload_n hx hb dX9_compile_40 rfl (lv_at hl 1 rfl) ?_
            refine lv_aload_n hx hb dX9_compile_41 rfl (lv_at hl 0 rfl) ?_
            refine va_get (D := D) (ci := 11) (v := .ref (X 8)) (C := RX9) (T := TX9) (N := 17) hx hb hts iv_k_X9_compile_X9 hown hK hP 13 rfl rfl 1 (by decide) (hts (.fieldLink RX9 38 "AnswerFold$Solver" "grounding" "LAnswerFold$Grounding;") (by decide +kernel)) (fun _ h9 => h9) rfl dX9_compile_42 ?_
            refine va_getN (D := D) (ci := 5) (v := .int on) (C := RX3) (T := TX3) (N := 16) hx hb hts iv_k_X9_compile_X3 hown hK hP 4 rfl rfl 12 (by decide) (hE.at (.fieldLinkNest "AnswerFold$Solver" 65 "AnswerFold$Grounding" "openCount" "I" "AnswerFold") (by decide +kernel)) (fun _ h9 => h9) rfl dX9_compile_45 ?_
            refine lv_icmp_ge (tgt := 94) hx hb dX9_compile_48 (by decide) (fun c_2 => ?_) (fun c_2 => ?_)
            · rw [if_pos c_2] at hT
              refine lv_aload_n hx hb dX9_compile_94 rfl (lv_at hl 0 rfl) ?_
              refine lv_iconst (v := 0) hx hb dX9_compile_95 (by decide) ?_
              refine va_put (D := D) (ci := 11) (v := .int 0) (ty := tyX9 11) (C := RX9) (T := TX9) (N := 17) hx hb hts iv_k_X9_compile_X9 tyX9 tyX9_ok nmX9 hown hK hP hD hS 13 rfl rfl 11 (by decide) (hts (.fieldLink RX9 75 "AnswerFold$Solver" "freeBits" "I") (by decide +kernel)) (fun _ h9 => h9) rfl (by decide +kernel) rfl rfl (Nat.le_of_ble_eq_true rfl) dX9_compile_96 (fun H locs hP hD hS => ?_)
              have hP : va_P D vwCl ((wW_k_X9_compile ty X pn rn tn en rf ea es hn kn on cu pu gw b_1 b_2 b_3 b_p su hds kr kv oa ob an ch cg (0) mh ml ih lb ic cn c1 c2 c3 c4 c5 c6 wn w1 w2 w3 w4 w5 w6 x36_f_40 x37_f_2) ++ pw ty pp) H := hP
              have hD : va_D A ((wW_k_X9_compile ty X pn rn tn en rf ea es hn kn on cu pu gw b_1 b_2 b_3 b_p su hds kr kv oa ob an ch cg (0) mh ml ih lb ic cn c1 c2 c3 c4 c5 c6 wn w1 w2 w3 w4 w5 w6 x36_f_40 x37_f_2) ++ pw ty pp) := hD
              refine lv_iconst (v := 0) hx hb dX9_compile_99 (by decide) ?_
              refine lv_istore_n (lv' := [(1, .int 0), (0, .ref (X 20))]) hx hb dX9_compile_100 rfl hl (by decide) rfl (fun ls hl => ?_)
              have L_101 : ∀ (n_101 : Nat) (v1_101 : Int32) (x20_11_101 : Int32), (2147483648 - v1_101.toInt).toNat < n_101 → TT = m_k_X9_compile_101 pp rn en rf ea es hn kn on b_1 b_2 b_3 b_p su hds kr kv ob c1 c2 c3 c4 c5 c6 w1 w2 w3 w4 w5 w6 x36_f_40 x37_f_2 n_101 v1_101 x20_11_101 → 0 ≤ v1_101.toInt → ∀ (H : Heap) (locs : List Loc), va_P D vwCl ((wW_k_X9_compile ty X pn rn tn en rf ea es hn kn on cu pu gw b_1 b_2 b_3 b_p su hds kr kv oa ob an ch cg x20_11_101 mh ml ih lb ic cn c1 c2 c3 c4 c5 c6 wn w1 w2 w3 w4 w5 w6 x36_f_40 x37_f_2) ++ pw ty pp) H → va_D A ((wW_k_X9_compile ty X pn rn tn en rf ea es hn kn on cu pu gw b_1 b_2 b_3 b_p su hds kr kv oa ob an ch cg x20_11_101 mh ml ih lb ic cn c1 c2 c3 c4 c5 c6 wn w1 w2 w3 w4 w5 w6 x36_f_40 x37_f_2) ++ pw ty pp) → va_S A s.heap H locs → ∀ ls : Array Slot, lv_has ls 3 [(0, .ref (X 20)), (1, .int v1_101)] → W p l e (headSpec vs_k_X9_compile { frames := 5, cells := 0, slots := 0, locals := 126 }).room s m ([.ref (X 20)] : List Value).toArray below meth c H locs 0 0 (MQ below (va_Qv (fun u : va_W => ((u = ((wW_k_X9_compile ty X pn rn tn en rf ea es TT.2.2.2.2.2.2.2.2.2.2.2.2.2.2.2.2.2.2.2.2.2.1 kn on cu pu gw TT.2.2.2.2.2.2.2.2.2.2.2.2.2.2.2.2.2.2.2.2.2.2.1 TT.2.2.2.2.2.2.2.2.2.2.2.2.2.2.2.2.2.2.2.2.2.2.2.1 TT.2.2.2.2.2.2.2.2.2.2.2.2.2.2.2.2.2.2.2.2.2.2.2.2.1 TT.2.2.2.2.2.2.2.2.2.2.2.2.2.2.2.2.2.2.2.2.2.2.2.2.2 su TT.1 kr kv oa ob an TT.2.2.2.2.1 TT.2.1 TT.2.2.1 mh ml ih TT.2.2.2.1 ic TT.2.2.2.2.2.1 TT.2.2.2.2.2.2.1 TT.2.2.2.2.2.2.2.1 TT.2.2.2.2.2.2.2.2.1 TT.2.2.2.2.2.2.2.2.2.1 TT.2.2.2.2.2.2.2.2.2.2.1 TT.2.2.2.2.2.2.2.2.2.2.2.1 TT.2.2.2.2.2.2.2.2.2.2.2.2.1 TT.2.2.2.2.2.2.2.2.2.2.2.2.2.1 TT.2.2.2.2.2.2.2.2.2.2.2.2.2.2.1 TT.2.2.2.2.2.2.2.2.2.2.2.2.2.2.2.1 TT.2.2.2.2.2.2.2.2.2.2.2.2.2.2.2.2.1 TT.2.2.2.2.2.2.2.2.2.2.2.2.2.2.2.2.2.1 TT.2.2.2.2.2.2.2.2.2.2.2.2.2.2.2.2.2.2.1 TT.2.2.2.2.2.2.2.2.2.2.2.2.2.2.2.2.2.2.2.1 TT.2.2.2.2.2.2.2.2.2.2.2.2.2.2.2.2.2.2.2.2.1) ++ pw ty pp)))) (wq_B D A) A) ([.ref (X 20)] : List Value).toArray s 0 0 A) (F0 m 101 ls []) := by
                intro n_101
                induction n_101 with
                | zero => intro v1_101 x20_11_101 hu; exact absurd hu (Nat.not_lt_zero _)
                | succ n_101 ih_101 =>
                  intro v1_101 x20_11_101 hu_101 hT hn_101 H locs hP hD hS ls hl
                  rw [m_k_X9_compile_101_succ, m_k_X9_compile_101s] at hT
                  refine lv_iload_n hx hb dX9_compile_101 rfl (lv_at hl 1 rfl) ?_
                  refine lv_aload_n hx hb dX9_compile_102 rfl (lv_at hl 0 rfl) ?_
                  refine va_get (D := D) (ci := 11) (v := .ref (X 1)) (C := RX9) (T := TX9) (N := 17) hx hb hts iv_k_X9_compile_X9 hown hK hP 13 rfl rfl 0 (by decide) (hts (.fieldLink RX9 34 "AnswerFold$Solver" "program" "LAnswerFold$Program;") (by decide +kernel)) (fun _ h9 => h9) rfl dX9_compile_103 ?_
                  refine va_getN (D := D) (ci := 8) (v := .int en) (C := RX6) (T := TX6) (N := 10) hx hb hts iv_k_X9_compile_X6 hown hK hP 0 rfl rfl 9 (by decide) (hE.at (.fieldLinkNest "AnswerFold$Solver" 78 "AnswerFold$Program" "externalCount" "I" "AnswerFold") (by decide +kernel)) (fun _ h9 => h9) rfl dX9_compile_106 ?_
                  refine lv_icmp_ge (tgt := 152) hx hb dX9_compile_109 (by decide) (fun c_3 => ?_) (fun c_3 => ?_)
                  · rw [if_pos c_3] at hT
                    refine lv_aload_n hx hb dX9_compile_152 rfl (lv_at hl 0 rfl) ?_
                    obtain ⟨t_153, ht_153⟩ : ∃ t, t = m_k_X9_noteRules pp rn rf := ⟨_, rfl⟩
                    rw [lE_eq ht_153] at hT
                    refine wq_vPW (wc := (wW_k_X9_noteRules ty X pn rn tn en rf an ch cg x20_11_101 mh ml ih lb ic)) (pl := pw ty pp) (ux := (wW_k_X9_noteRules ty X pn rn tn en rf an t_153.2 t_153.1 x20_11_101 mh ml ih lb ic)) (va_runV (As := []) (rest := []) ⟨hx, hb, hml, hown, hts⟩ (k_X9_noteRules l D ty td mi H.size pp X pn rn tn en rf an ch cg x20_11_101 mh ml ih lb ic hok hru t_153 ht_153) (cwV 0 hts gv_k_X9_compile_0 rfl rfl rfl (by decide +kernel) ⟨(Nat.le_of_ble_eq_true rfl), (Nat.le_of_ble_eq_true rfl)⟩) ⟨(wq_preSP hP hD hK hE hS hA [0, 1, 13] rfl (by decide) (As := .ref (X 20) :: [])).1, va_recv (q0 := 13) (ci := 11) hK hP rfl rfl, (wq_preSP hP hD hK hE hS hA [0, 1, 13] rfl (by decide) (As := .ref (X 20) :: [])).2⟩ rfl rfl hl.1 rfl (lv_room (Nat.le_of_ble_eq_true rfl)) dX9_compile_153 ⟨(Nat.le_of_ble_eq_true rfl), (Nat.le_of_ble_eq_true rfl)⟩) hS hA hP hD [0, 1, 13] rfl (by decide) rfl (fun _ h => h) (fun  H locs hw hP hD hS => ?_)
                    have hP : va_P D vwCl ((wW_k_X9_compile ty X pn rn tn en rf ea es hn kn on cu pu gw b_1 b_2 b_3 b_p su hds kr kv oa ob an t_153.2 t_153.1 x20_11_101 mh ml ih lb ic cn c1 c2 c3 c4 c5 c6 wn w1 w2 w3 w4 w5 w6 x36_f_40 x37_f_2) ++ pw ty pp) H := hP
                    have hD : va_D A ((wW_k_X9_compile ty X pn rn tn en rf ea es hn kn on cu pu gw b_1 b_2 b_3 b_p su hds kr kv oa ob an t_153.2 t_153.1 x20_11_101 mh ml ih lb ic cn c1 c2 c3 c4 c5 c6 wn w1 w2 w3 w4 w5 w6 x36_f_40 x37_f_2) ++ pw ty pp) := hD
                    refine W.widen (k := 0) (n := 0) (Nat.le_of_ble_eq_true rfl) (Nat.le_of_ble_eq_true rfl) ?_
                    refine lv_aload_n hx hb dX9_compile_156 rfl (lv_at hl 0 rfl) ?_
                    refine va_get (D := D) (ci := 11) (v := .ref (X 21)) (C := RX9) (T := TX9) (N := 17) hx hb hts iv_k_X9_compile_X9 hown hK hP 13 rfl rfl 2 (by decide) (hts (.fieldLink RX9 12 "AnswerFold$Solver" "checks" "LAnswerFold$Rows;") (by decide +kernel)) (fun _ h9 => h9) rfl dX9_compile_157 ?_
                    refine lv_iconst (v := 0) hx hb dX9_compile_160 (by decide) ?_
                    refine va_putN (D := D) (ci := 9) (v := .int 0) (ty := tyX7 6) (C := RX7) (T := TX7) (N := 7) hx hb hts iv_k_X9_compile_X7 tyX7 tyX7_ok nmX7 hown hK hP hD hS 14 rfl rfl 6 (by decide) (hE.at (.fieldLinkNest "AnswerFold$Solver" 93 "AnswerFold$Rows" "count" "I" "AnswerFold") (by decide +kernel)) (fun _ h9 => h9) rfl (by decide +kernel) rfl rfl (Nat.le_of_ble_eq_true rfl) dX9_compile_161 (fun H locs hP hD hS => ?_)
                    have hP : va_P D vwCl ((wW_k_X9_compile ty X pn rn tn en rf ea es hn kn on cu pu gw b_1 b_2 b_3 b_p su hds kr kv oa ob an t_153.2 t_153.1 x20_11_101 mh ml ih lb ic (0) c1 c2 c3 c4 c5 c6 wn w1 w2 w3 w4 w5 w6 x36_f_40 x37_f_2) ++ pw ty pp) H := hP
                    have hD : va_D A ((wW_k_X9_compile ty X pn rn tn en rf ea es hn kn on cu pu gw b_1 b_2 b_3 b_p su hds kr kv oa ob an t_153.2 t_153.1 x20_11_101 mh ml ih lb ic (0) c1 c2 c3 c4 c5 c6 wn w1 w2 w3 w4 w5 w6 x36_f_40 x37_f_2) ++ pw ty pp) := hD
                    refine lv_aload_n hx hb dX9_compile_164 rfl (lv_at hl 0 rfl) ?_
                    refine va_get (D := D) (ci := 11) (v := .ref (X 28)) (C := RX9) (T := TX9) (N := 17) hx hb hts iv_k_X9_compile_X9 hown hK hP 13 rfl rfl 3 (by decide) (hts (.fieldLink RX9 18 "AnswerFold$Solver" "weaks" "LAnswerFold$Rows;") (by decide +kernel)) (fun _ h9 => h9) rfl dX9_compile_165 ?_
                    refine lv_iconst (v := 0) hx hb dX9_compile_168 (by decide) ?_
                    refine va_putN (D := D) (ci := 9) (v := .int 0) (ty := tyX7 6) (C := RX7) (T := TX7) (N := 7) hx hb hts iv_k_X9_compile_X7 tyX7 tyX7_ok nmX7 hown hK hP hD hS 21 rfl rfl 6 (by decide) (hE.at (.fieldLinkNest "AnswerFold$Solver" 93 "AnswerFold$Rows" "count" "I" "AnswerFold") (by decide +kernel)) (fun _ h9 => h9) rfl (by decide +kernel) rfl rfl (Nat.le_of_ble_eq_true rfl) dX9_compile_169 (fun H locs hP hD hS => ?_)
                    have hP : va_P D vwCl ((wW_k_X9_compile ty X pn rn tn en rf ea es hn kn on cu pu gw b_1 b_2 b_3 b_p su hds kr kv oa ob an t_153.2 t_153.1 x20_11_101 mh ml ih lb ic (0) c1 c2 c3 c4 c5 c6 (0) w1 w2 w3 w4 w5 w6 x36_f_40 x37_f_2) ++ pw ty pp) H := hP
                    have hD : va_D A ((wW_k_X9_compile ty X pn rn tn en rf ea es hn kn on cu pu gw b_1 b_2 b_3 b_p su hds kr kv oa ob an t_153.2 t_153.1 x20_11_101 mh ml ih lb ic (0) c1 c2 c3 c4 c5 c6 (0) w1 w2 w3 w4 w5 w6 x36_f_40 x37_f_2) ++ pw ty pp) := hD
                    refine lv_iconst (v := 0) hx hb dX9_compile_172 (by decide) ?_
                    refine lv_istore_n (lv' := [(1, .int 0), (0, .ref (X 20))]) hx hb dX9_compile_173 rfl hl (by decide) rfl (fun ls hl => ?_)
                    have L_174 : ∀ (n_174 : Nat) (v1_174 : Int32) (x14_f_174 : Nat → Int32) (x21_6_174 : Int32) (x22_f_174 : Nat → Int32) (x23_f_174 : Nat → Int32) (x24_f_174 : Nat → Int32) (x25_f_174 : Nat → Int32) (x26_f_174 : Nat → Int32) (x27_f_174 : Nat → Int32) (x28_6_174 : Int32) (x29_f_174 : Nat → Int32) (x30_f_174 : Nat → Int32) (x31_f_174 : Nat → Int32) (x32_f_174 : Nat → Int32) (x33_f_174 : Nat → Int32) (x34_f_174 : Nat → Int32) (x8_5_174 : Int32) (x9_0_174 : Int32) (x9_1_174 : Int32) (x9_2_174 : Int32) (x9_3_174 : Int32), (2147483648 - v1_174.toInt).toNat < n_174 → TT = m_k_X9_compile_174 pp rn rf kn on su kr kv ob t_153 x20_11_101 x36_f_40 x37_f_2 n_174 v1_174 x14_f_174 x21_6_174 x22_f_174 x23_f_174 x24_f_174 x25_f_174 x26_f_174 x27_f_174 x28_6_174 x29_f_174 x30_f_174 x31_f_174 x32_f_174 x33_f_174 x34_f_174 x8_5_174 x9_0_174 x9_1_174 x9_2_174 x9_3_174 → 0 ≤ v1_174.toInt → ∀ (H : Heap) (locs : List Loc), va_P D vwCl ((wW_k_X9_compile ty X pn rn tn en rf ea es x8_5_174 kn on cu pu gw x9_0_174 x9_1_174 x9_2_174 x9_3_174 su x14_f_174 kr kv oa ob an t_153.2 t_153.1 x20_11_101 mh ml ih lb ic x21_6_174 x22_f_174 x23_f_174 x24_f_174 x25_f_174 x26_f_174 x27_f_174 x28_6_174 x29_f_174 x30_f_174 x31_f_174 x32_f_174 x33_f_174 x34_f_174 x36_f_40 x37_f_2) ++ pw ty pp) H → va_D A ((wW_k_X9_compile ty X pn rn tn en rf ea es x8_5_174 kn on cu pu gw x9_0_174 x9_1_174 x9_2_174 x9_3_174 su x14_f_174 kr kv oa ob an t_153.2 t_153.1 x20_11_101 mh ml ih lb ic x21_6_174 x22_f_174 x23_f_174 x24_f_174 x25_f_174 x26_f_174 x27_f_174 x28_6_174 x29_f_174 x30_f_174 x31_f_174 x32_f_174 x33_f_174 x34_f_174 x36_f_40 x37_f_2) ++ pw ty pp) → va_S A s.heap H locs → ∀ ls : Array Slot, lv_has ls 3 [(0, .ref (X 20)), (1, .int v1_174)] → W p l e (headSpec vs_k_X9_compile { frames := 5, cells := 0, slots := 0, locals := 126 }).room s m ([.ref (X 20)] : List Value).toArray below meth c H locs 0 0 (MQ below (va_Qv (fun u : va_W => ((u = ((wW_k_X9_compile ty X pn rn tn en rf ea es TT.2.2.2.2.2.2.2.2.2.2.2.2.2.2.2.2.2.2.2.2.2.1 kn on cu pu gw TT.2.2.2.2.2.2.2.2.2.2.2.2.2.2.2.2.2.2.2.2.2.2.1 TT.2.2.2.2.2.2.2.2.2.2.2.2.2.2.2.2.2.2.2.2.2.2.2.1 TT.2.2.2.2.2.2.2.2.2.2.2.2.2.2.2.2.2.2.2.2.2.2.2.2.1 TT.2.2.2.2.2.2.2.2.2.2.2.2.2.2.2.2.2.2.2.2.2.2.2.2.2 su TT.1 kr kv oa ob an TT.2.2.2.2.1 TT.2.1 TT.2.2.1 mh ml ih TT.2.2.2.1 ic TT.2.2.2.2.2.1 TT.2.2.2.2.2.2.1 TT.2.2.2.2.2.2.2.1 TT.2.2.2.2.2.2.2.2.1 TT.2.2.2.2.2.2.2.2.2.1 TT.2.2.2.2.2.2.2.2.2.2.1 TT.2.2.2.2.2.2.2.2.2.2.2.1 TT.2.2.2.2.2.2.2.2.2.2.2.2.1 TT.2.2.2.2.2.2.2.2.2.2.2.2.2.1 TT.2.2.2.2.2.2.2.2.2.2.2.2.2.2.1 TT.2.2.2.2.2.2.2.2.2.2.2.2.2.2.2.1 TT.2.2.2.2.2.2.2.2.2.2.2.2.2.2.2.2.1 TT.2.2.2.2.2.2.2.2.2.2.2.2.2.2.2.2.2.1 TT.2.2.2.2.2.2.2.2.2.2.2.2.2.2.2.2.2.2.1 TT.2.2.2.2.2.2.2.2.2.2.2.2.2.2.2.2.2.2.2.1 TT.2.2.2.2.2.2.2.2.2.2.2.2.2.2.2.2.2.2.2.2.1) ++ pw ty pp)))) (wq_B D A) A) ([.ref (X 20)] : List Value).toArray s 0 0 A) (F0 m 174 ls []) := by
                      intro n_174
                      induction n_174 with
                      | zero => intro v1_174 x14_f_174 x21_6_174 x22_f_174 x23_f_174 x24_f_174 x25_f_174 x26_f_174 x27_f_174 x28_6_174 x29_f_174 x30_f_174 x31_f_174 x32_f_174 x33_f_174 x34_f_174 x8_5_174 x9_0_174 x9_1_174 x9_2_174 x9_3_174 hu; exact absurd hu (Nat.not_lt_zero _)
                      | succ n_174 ih_174 =>
                        intro v1_174 x14_f_174 x21_6_174 x22_f_174 x23_f_174 x24_f_174 x25_f_174 x26_f_174 x27_f_174 x28_6_174 x29_f_174 x30_f_174 x31_f_174 x32_f_174 x33_f_174 x34_f_174 x8_5_174 x9_0_174 x9_1_174 x9_2_174 x9_3_174 hu_174 hT hn_174 H locs hP hD hS ls hl
                        rw [m_k_X9_compile_174_succ, m_k_X9_compile_174s] at hT
                        refine lv_iload_n hx hb dX9_compile_174 rfl (lv_at hl 1 rfl) ?_
                        refine lv_aload_n hx hb dX9_compile_175 rfl (lv_at hl 0 rfl) ?_
                        refine va_get (D := D) (ci := 11) (v := .ref (X 8)) (C := RX9) (T := TX9) (N := 17) hx hb hts iv_k_X9_compile_X9 hown hK hP 13 rfl rfl 1 (by decide) (hts (.fieldLink RX9 38 "AnswerFold$Solver" "grounding" "LAnswerFold$Grounding;") (by decide +kernel)) (fun _ h9 => h9) rfl dX9_compile_176 ?_
                        refine va_getN (D := D) (ci := 5) (v := .int kn) (C := RX3) (T := TX3) (N := 16) hx hb hts iv_k_X9_compile_X3 hown hK hP 4 rfl rfl 9 (by decide) (hE.at (.fieldLinkNest "AnswerFold$Solver" 96 "AnswerFold$Grounding" "keptCount" "I" "AnswerFold") (by decide +kernel)) (fun _ h9 => h9) rfl dX9_compile_179 ?_
                        refine lv_icmp_ge (tgt := 196) hx hb dX9_compile_182 (by decide) (fun c_6 => ?_) (fun c_6 => ?_)
                        · rw [if_pos c_6] at hT
                          refine lv_aload_n hx hb dX9_compile_196 rfl (lv_at hl 0 rfl) ?_
                          refine lv_iconst (v := 0) hx hb dX9_compile_197 (by decide) ?_
                          refine va_put (D := D) (ci := 11) (v := .int 0) (ty := tyX9 15) (C := RX9) (T := TX9) (N := 17) hx hb hts iv_k_X9_compile_X9 tyX9 tyX9_ok nmX9 hown hK hP hD hS 13 rfl rfl 15 (by decide) (hts (.fieldLink RX9 103 "AnswerFold$Solver" "lastBroken" "I") (by decide +kernel)) (fun _ h9 => h9) rfl (by decide +kernel) rfl rfl (Nat.le_of_ble_eq_true rfl) dX9_compile_198 (fun H locs hP hD hS => ?_)
                          have hP : va_P D vwCl ((wW_k_X9_compile ty X pn rn tn en rf ea es x8_5_174 kn on cu pu gw x9_0_174 x9_1_174 x9_2_174 x9_3_174 su x14_f_174 kr kv oa ob an t_153.2 t_153.1 x20_11_101 mh ml ih (0) ic x21_6_174 x22_f_174 x23_f_174 x24_f_174 x25_f_174 x26_f_174 x27_f_174 x28_6_174 x29_f_174 x30_f_174 x31_f_174 x32_f_174 x33_f_174 x34_f_174 x36_f_40 x37_f_2) ++ pw ty pp) H := hP
                          have hD : va_D A ((wW_k_X9_compile ty X pn rn tn en rf ea es x8_5_174 kn on cu pu gw x9_0_174 x9_1_174 x9_2_174 x9_3_174 su x14_f_174 kr kv oa ob an t_153.2 t_153.1 x20_11_101 mh ml ih (0) ic x21_6_174 x22_f_174 x23_f_174 x24_f_174 x25_f_174 x26_f_174 x27_f_174 x28_6_174 x29_f_174 x30_f_174 x31_f_174 x32_f_174 x33_f_174 x34_f_174 x36_f_40 x37_f_2) ++ pw ty pp) := hD
                          exact END x14_f_174 t_153.1 x20_11_101 0 t_153.2 x21_6_174 x22_f_174 x23_f_174 x24_f_174 x25_f_174 x26_f_174 x27_f_174 x28_6_174 x29_f_174 x30_f_174 x31_f_174 x32_f_174 x33_f_174 x34_f_174 x36_f_40 x37_f_2 x8_5_174 x9_0_174 x9_1_174 x9_2_174 x9_3_174 hT _ _ hP hD hS _ _ dX9_compile_201
                        · rw [if_neg c_6] at hT
                          refine lv_aload_n hx hb dX9_compile_185 rfl (lv_at hl 0 rfl) ?_
                          refine lv_iload_n hx hb dX9_compile_186 rfl (lv_at hl 1 rfl) ?_
                          obtain ⟨t_187, ht_187⟩ : ∃ t, t = m_k_X9_compileInstance pp rn rf x8_5_174 on x9_0_174 x9_1_174 x9_2_174 x9_3_174 su x14_f_174 kr kv ob x21_6_174 x22_f_174 x23_f_174 x24_f_174 x25_f_174 x26_f_174 x27_f_174 x28_6_174 x29_f_174 x30_f_174 x31_f_174 x32_f_174 x33_f_174 x34_f_174 v1_174 := ⟨_, rfl⟩
                          rw [lE_eq ht_187] at hT
                          refine wq_vPW (wc := (wW_k_X9_compileInstance ty X pn rn tn en rf x8_5_174 kn on cu pu gw x9_0_174 x9_1_174 x9_2_174 x9_3_174 su x14_f_174 kr kv ob an t_153.2 t_153.1 x20_11_101 mh ml ih lb ic x21_6_174 x22_f_174 x23_f_174 x24_f_174 x25_f_174 x26_f_174 x27_f_174 x28_6_174 x29_f_174 x30_f_174 x31_f_174 x32_f_174 x33_f_174 x34_f_174)) (pl := pw ty pp) (ux := (wW_k_X9_compileInstance ty X pn rn tn en rf t_187.2.2.2.2.2.2.2.2.2.2.2.2.2.2.2.1 kn on cu pu gw t_187.2.2.2.2.2.2.2.2.2.2.2.2.2.2.2.2.1 t_187.2.2.2.2.2.2.2.2.2.2.2.2.2.2.2.2.2.1 t_187.2.2.2.2.2.2.2.2.2.2.2.2.2.2.2.2.2.2.1 t_187.2.2.2.2.2.2.2.2.2.2.2.2.2.2.2.2.2.2.2 su t_187.1 kr kv ob an t_153.2 t_153.1 x20_11_101 mh ml ih lb ic t_187.2.1 t_187.2.2.1 t_187.2.2.2.1 t_187.2.2.2.2.1 t_187.2.2.2.2.2.1 t_187.2.2.2.2.2.2.1 t_187.2.2.2.2.2.2.2.1 t_187.2.2.2.2.2.2.2.2.1 t_187.2.2.2.2.2.2.2.2.2.1 t_187.2.2.2.2.2.2.2.2.2.2.1 t_187.2.2.2.2.2.2.2.2.2.2.2.1 t_187.2.2.2.2.2.2.2.2.2.2.2.2.1 t_187.2.2.2.2.2.2.2.2.2.2.2.2.2.1 t_187.2.2.2.2.2.2.2.2.2.2.2.2.2.2.1)) (va_runV (As := [.int v1_174]) (rest := []) ⟨hx, hb, hml, hown, hts⟩ (k_X9_compileInstance l D ty td mi H.size pp X pn rn tn en rf x8_5_174 kn on cu pu gw x9_0_174 x9_1_174 x9_2_174 x9_3_174 su x14_f_174 kr kv ob an t_153.2 t_153.1 x20_11_101 mh ml ih lb ic x21_6_174 x22_f_174 x23_f_174 x24_f_174 x25_f_174 x26_f_174 x27_f_174 x28_6_174 x29_f_174 x30_f_174 x31_f_174 x32_f_174 x33_f_174 x34_f_174 v1_174 hok hru t_187 ht_187) (cwV 1 hts gv_k_X9_compile_1 rfl rfl rfl (by decide +kernel) ⟨(Nat.le_of_ble_eq_true rfl), (Nat.le_of_ble_eq_true rfl)⟩) ⟨(wq_preSP hP hD hK hE hS hA [0, 1, 4, 5, 6, 7, 8, 9, 10, 12, 13, 14, 15, 16, 17, 18, 19, 20, 21, 22, 23, 24, 25, 26, 27] rfl (by decide) (As := .ref (X 20) :: [.int v1_174])).1, va_recv (q0 := 13) (ci := 11) hK hP rfl rfl, (wq_preSP hP hD hK hE hS hA [0, 1, 4, 5, 6, 7, 8, 9, 10, 12, 13, 14, 15, 16, 17, 18, 19, 20, 21, 22, 23, 24, 25, 26, 27] rfl (by decide) (As := .ref (X 20) :: [.int v1_174])).2⟩ rfl rfl hl.1 rfl (lv_room (Nat.le_of_ble_eq_true rfl)) dX9_compile_187 ⟨(Nat.le_of_ble_eq_true rfl), (Nat.le_of_ble_eq_true rfl)⟩) hS hA hP hD [0, 1, 4, 5, 6, 7, 8, 9, 10, 12, 13, 14, 15, 16, 17, 18, 19, 20, 21, 22, 23, 24, 25, 26, 27] rfl (by decide) rfl (fun _ h => h) (fun  H locs hw hP hD hS => ?_)
                          have hP : va_P D vwCl ((wW_k_X9_compile ty X pn rn tn en rf ea es t_187.2.2.2.2.2.2.2.2.2.2.2.2.2.2.2.1 kn on cu pu gw t_187.2.2.2.2.2.2.2.2.2.2.2.2.2.2.2.2.1 t_187.2.2.2.2.2.2.2.2.2.2.2.2.2.2.2.2.2.1 t_187.2.2.2.2.2.2.2.2.2.2.2.2.2.2.2.2.2.2.1 t_187.2.2.2.2.2.2.2.2.2.2.2.2.2.2.2.2.2.2.2 su t_187.1 kr kv oa ob an t_153.2 t_153.1 x20_11_101 mh ml ih lb ic t_187.2.1 t_187.2.2.1 t_187.2.2.2.1 t_187.2.2.2.2.1 t_187.2.2.2.2.2.1 t_187.2.2.2.2.2.2.1 t_187.2.2.2.2.2.2.2.1 t_187.2.2.2.2.2.2.2.2.1 t_187.2.2.2.2.2.2.2.2.2.1 t_187.2.2.2.2.2.2.2.2.2.2.1 t_187.2.2.2.2.2.2.2.2.2.2.2.1 t_187.2.2.2.2.2.2.2.2.2.2.2.2.1 t_187.2.2.2.2.2.2.2.2.2.2.2.2.2.1 t_187.2.2.2.2.2.2.2.2.2.2.2.2.2.2.1 x36_f_40 x37_f_2) ++ pw ty pp) H := hP
                          have hD : va_D A ((wW_k_X9_compile ty X pn rn tn en rf ea es t_187.2.2.2.2.2.2.2.2.2.2.2.2.2.2.2.1 kn on cu pu gw t_187.2.2.2.2.2.2.2.2.2.2.2.2.2.2.2.2.1 t_187.2.2.2.2.2.2.2.2.2.2.2.2.2.2.2.2.2.1 t_187.2.2.2.2.2.2.2.2.2.2.2.2.2.2.2.2.2.2.1 t_187.2.2.2.2.2.2.2.2.2.2.2.2.2.2.2.2.2.2.2 su t_187.1 kr kv oa ob an t_153.2 t_153.1 x20_11_101 mh ml ih lb ic t_187.2.1 t_187.2.2.1 t_187.2.2.2.1 t_187.2.2.2.2.1 t_187.2.2.2.2.2.1 t_187.2.2.2.2.2.2.1 t_187.2.2.2.2.2.2.2.1 t_187.2.2.2.2.2.2.2.2.1 t_187.2.2.2.2.2.2.2.2.2.1 t_187.2.2.2.2.2.2.2.2.2.2.1 t_187.2.2.2.2.2.2.2.2.2.2.2.1 t_187.2.2.2.2.2.2.2.2.2.2.2.2.1 t_187.2.2.2.2.2.2.2.2.2.2.2.2.2.1 t_187.2.2.2.2.2.2.2.2.2.2.2.2.2.2.1 x36_f_40 x37_f_2) ++ pw ty pp) := hD
                          refine W.widen (k := 0) (n := 0) (Nat.le_of_ble_eq_true rfl) (Nat.le_of_ble_eq_true rfl) ?_
                          refine lv_iinc (v := v1_174 + 1) (lv' := [(1, .int (v1_174 + 1)), (0, .ref (X 20))]) hx hb dX9_compile_190 hl (k := 1) rfl (by rfl) (by decide) rfl (fun ls hl => ?_)
                          refine lv_goto (tgt := 174) hx hb dX9_compile_193 (by decide) ?_
                          exact ih_174 (v1_174 + 1) t_187.1 t_187.2.1 t_187.2.2.1 t_187.2.2.2.1 t_187.2.2.2.2.1 t_187.2.2.2.2.2.1 t_187.2.2.2.2.2.2.1 t_187.2.2.2.2.2.2.2.1 t_187.2.2.2.2.2.2.2.2.1 t_187.2.2.2.2.2.2.2.2.2.1 t_187.2.2.2.2.2.2.2.2.2.2.1 t_187.2.2.2.2.2.2.2.2.2.2.2.1 t_187.2.2.2.2.2.2.2.2.2.2.2.2.1 t_187.2.2.2.2.2.2.2.2.2.2.2.2.2.1 t_187.2.2.2.2.2.2.2.2.2.2.2.2.2.2.1 t_187.2.2.2.2.2.2.2.2.2.2.2.2.2.2.2.1 t_187.2.2.2.2.2.2.2.2.2.2.2.2.2.2.2.2.1 t_187.2.2.2.2.2.2.2.2.2.2.2.2.2.2.2.2.2.1 t_187.2.2.2.2.2.2.2.2.2.2.2.2.2.2.2.2.2.2.1 t_187.2.2.2.2.2.2.2.2.2.2.2.2.2.2.2.2.2.2.2 (wi_up hu_174 (Int32.not_le.mp c_6)) hT (wi_inc hn_174 (Int32.not_le.mp c_6)) _ _ hP hD hS _ (lv_sub hl [1, 0] rfl)
                    exact L_174 wF 0 hds 0 c1 c2 c3 c4 c5 c6 0 w1 w2 w3 w4 w5 w6 hn b_1 b_2 b_3 b_p (wF_up 0) hT (by decide) _ _ hP hD hS _ (lv_sub hl [1, 0] rfl)
                  · rw [if_neg c_3] at hT
                    refine lv_aload_n hx hb dX9_compile_112 rfl (lv_at hl 0 rfl) ?_
                    refine va_get (D := D) (ci := 11) (v := .ref (X 1)) (C := RX9) (T := TX9) (N := 17) hx hb hts iv_k_X9_compile_X9 hown hK hP 13 rfl rfl 0 (by decide) (hts (.fieldLink RX9 34 "AnswerFold$Solver" "program" "LAnswerFold$Program;") (by decide +kernel)) (fun _ h9 => h9) rfl dX9_compile_113 ?_
                    refine lv_iload_n hx hb dX9_compile_116 rfl (lv_at hl 1 rfl) ?_
                    obtain ⟨t_117, ht_117⟩ : ∃ t, t = m_k_X6_externalState en es v1_101 := ⟨_, rfl⟩
                    rw [lE_eq ht_117] at hT
                    refine wq_iQW (wc := (wW_k_X6_externalState ty X pn rn tn en es)) (pl := pw ty pp) (va_runV (As := [.int v1_101]) (rest := []) ⟨hx, hb, hml, hown, hts⟩ (k_X6_externalState l D ty td mi H.size X pn rn tn en es v1_101 hch t_117 ht_117) (cwV 1 hts gv_k_X9_compile_2 rfl rfl rfl (by decide +kernel) ⟨(Nat.le_of_ble_eq_true rfl), (Nat.le_of_ble_eq_true rfl)⟩) ⟨(wq_preS (vP_left hP) (vD_left hD) hK hE hS hA [0, 3] rfl (by decide) (As := .ref (X 1) :: [.int v1_101])).1, va_recv (q0 := 0) (ci := 8) hK hP rfl rfl, (wq_preS (vP_left hP) (vD_left hD) hK hE hS hA [0, 3] rfl (by decide) (As := .ref (X 1) :: [.int v1_101])).2⟩ rfl rfl hl.1 rfl (lv_room (Nat.le_of_ble_eq_true rfl)) dX9_compile_117 ⟨(Nat.le_of_ble_eq_true rfl), (Nat.le_of_ble_eq_true rfl)⟩) hS hA hP hD [0, 3] rfl (by decide) (fun _ _ h => by rcases h with ⟨-, rfl⟩; rfl) (fun r u H locs hw hP hD hS => ?_)
                    obtain ⟨hr0, rfl⟩ := hw
                    subst r
                    have hP : va_P D vwCl ((wW_k_X9_compile ty X pn rn tn en rf ea es hn kn on cu pu gw b_1 b_2 b_3 b_p su hds kr kv oa ob an ch cg x20_11_101 mh ml ih lb ic cn c1 c2 c3 c4 c5 c6 wn w1 w2 w3 w4 w5 w6 x36_f_40 x37_f_2) ++ pw ty pp) H := hP
                    have hD : va_D A ((wW_k_X9_compile ty X pn rn tn en rf ea es hn kn on cu pu gw b_1 b_2 b_3 b_p su hds kr kv oa ob an ch cg x20_11_101 mh ml ih lb ic cn c1 c2 c3 c4 c5 c6 wn w1 w2 w3 w4 w5 w6 x36_f_40 x37_f_2) ++ pw ty pp) := hD
                    refine W.widen (k := 0) (n := 0) (Nat.le_of_ble_eq_true rfl) (Nat.le_of_ble_eq_true rfl) ?_
                    refine lv_bipush (v := 117) hx hb dX9_compile_120 (by decide) ?_
                    have J_146 : ∀ (x20_11_146 : Int32), TT = m_k_X9_compile_146 (m_k_X9_compile_101 pp rn en rf ea es hn kn on b_1 b_2 b_3 b_p su hds kr kv ob c1 c2 c3 c4 c5 c6 w1 w2 w3 w4 w5 w6 x36_f_40 x37_f_2 n_101) v1_101 x20_11_146 → ∀ (H : Heap) (locs : List Loc), va_P D vwCl ((wW_k_X9_compile ty X pn rn tn en rf ea es hn kn on cu pu gw b_1 b_2 b_3 b_p su hds kr kv oa ob an ch cg x20_11_146 mh ml ih lb ic cn c1 c2 c3 c4 c5 c6 wn w1 w2 w3 w4 w5 w6 x36_f_40 x37_f_2) ++ pw ty pp) H → va_D A ((wW_k_X9_compile ty X pn rn tn en rf ea es hn kn on cu pu gw b_1 b_2 b_3 b_p su hds kr kv oa ob an ch cg x20_11_146 mh ml ih lb ic cn c1 c2 c3 c4 c5 c6 wn w1 w2 w3 w4 w5 w6 x36_f_40 x37_f_2) ++ pw ty pp) → va_S A s.heap H locs → ∀ ls : Array Slot, lv_has ls 3 [(0, .ref (X 20)), (1, .int v1_101)] → W p l e (headSpec vs_k_X9_compile { frames := 5, cells := 0, slots := 0, locals := 126 }).room s m ([.ref (X 20)] : List Value).toArray below meth c H locs 0 0 (MQ below (va_Qv (fun u : va_W => ((u = ((wW_k_X9_compile ty X pn rn tn en rf ea es TT.2.2.2.2.2.2.2.2.2.2.2.2.2.2.2.2.2.2.2.2.2.1 kn on cu pu gw TT.2.2.2.2.2.2.2.2.2.2.2.2.2.2.2.2.2.2.2.2.2.2.1 TT.2.2.2.2.2.2.2.2.2.2.2.2.2.2.2.2.2.2.2.2.2.2.2.1 TT.2.2.2.2.2.2.2.2.2.2.2.2.2.2.2.2.2.2.2.2.2.2.2.2.1 TT.2.2.2.2.2.2.2.2.2.2.2.2.2.2.2.2.2.2.2.2.2.2.2.2.2 su TT.1 kr kv oa ob an TT.2.2.2.2.1 TT.2.1 TT.2.2.1 mh ml ih TT.2.2.2.1 ic TT.2.2.2.2.2.1 TT.2.2.2.2.2.2.1 TT.2.2.2.2.2.2.2.1 TT.2.2.2.2.2.2.2.2.1 TT.2.2.2.2.2.2.2.2.2.1 TT.2.2.2.2.2.2.2.2.2.2.1 TT.2.2.2.2.2.2.2.2.2.2.2.1 TT.2.2.2.2.2.2.2.2.2.2.2.2.1 TT.2.2.2.2.2.2.2.2.2.2.2.2.2.1 TT.2.2.2.2.2.2.2.2.2.2.2.2.2.2.1 TT.2.2.2.2.2.2.2.2.2.2.2.2.2.2.2.1 TT.2.2.2.2.2.2.2.2.2.2.2.2.2.2.2.2.1 TT.2.2.2.2.2.2.2.2.2.2.2.2.2.2.2.2.2.1 TT.2.2.2.2.2.2.2.2.2.2.2.2.2.2.2.2.2.2.1 TT.2.2.2.2.2.2.2.2.2.2.2.2.2.2.2.2.2.2.2.1 TT.2.2.2.2.2.2.2.2.2.2.2.2.2.2.2.2.2.2.2.2.1) ++ pw ty pp)))) (wq_B D A) A) ([.ref (X 20)] : List Value).toArray s 0 0 A) (F0 m 146 ls []) := by
                      intro x20_11_146 hT  H locs hP hD hS ls hl
                      rw [m_k_X9_compile_146] at hT
                      refine lv_iinc (v := v1_101 + 1) (lv' := [(1, .int (v1_101 + 1)), (0, .ref (X 20))]) hx hb dX9_compile_146 hl (k := 1) rfl (by rfl) (by decide) rfl (fun ls hl => ?_)
                      refine lv_goto (tgt := 101) hx hb dX9_compile_149 (by decide) ?_
                      exact ih_101 (v1_101 + 1) x20_11_146 (wi_up hu_101 (Int32.not_le.mp c_3)) hT (wi_inc hn_101 (Int32.not_le.mp c_3)) _ _ hP hD hS _ (lv_sub hl [1, 0] rfl)
                    refine lv_icmp_ne (tgt := 146) hx hb dX9_compile_122 (by decide) (fun c_11 => ?_) (fun c_11 => ?_)
                    · rw [if_neg c_11] at hT
                      exact J_146 x20_11_101 hT _ _ hP hD hS _ (lv_sub hl [0, 1] rfl)
                    · rw [if_pos c_11] at hT
                      refine lv_aload_n hx hb dX9_compile_125 rfl (lv_at hl 0 rfl) ?_
                      refine lv_dup hx hb dX9_compile_126 rfl ?_
                      refine va_get (D := D) (ci := 11) (v := .int x20_11_101) (C := RX9) (T := TX9) (N := 17) hx hb hts iv_k_X9_compile_X9 hown hK hP 13 rfl rfl 11 (by decide) (hts (.fieldLink RX9 75 "AnswerFold$Solver" "freeBits" "I") (by decide +kernel)) (fun _ h9 => h9) rfl dX9_compile_127 ?_
                      refine lv_aload_n hx hb dX9_compile_130 rfl (lv_at hl 0 rfl) ?_
                      refine lv_aload_n hx hb dX9_compile_131 rfl (lv_at hl 0 rfl) ?_
                      refine va_get (D := D) (ci := 11) (v := .ref (X 1)) (C := RX9) (T := TX9) (N := 17) hx hb hts iv_k_X9_compile_X9 hown hK hP 13 rfl rfl 0 (by decide) (hts (.fieldLink RX9 34 "AnswerFold$Solver" "program" "LAnswerFold$Program;") (by decide +kernel)) (fun _ h9 => h9) rfl dX9_compile_132 ?_
                      refine lv_iload_n hx hb dX9_compile_135 rfl (lv_at hl 1 rfl) ?_
                      obtain ⟨t_136, ht_136⟩ : ∃ t, t = m_k_X6_externalAtom en ea v1_101 := ⟨_, rfl⟩
                      rw [lE_eq ht_136] at hT
                      refine wq_iQW (wc := (wW_k_X6_externalAtom ty X pn rn tn en ea)) (pl := pw ty pp) (va_runV (As := [.int v1_101]) (rest := [.ref (X 20), .int x20_11_101, .ref (X 20)]) ⟨hx, hb, hml, hown, hts⟩ (k_X6_externalAtom l D ty td mi H.size X pn rn tn en ea v1_101 t_136 ht_136) (cwV 1 hts gv_k_X9_compile_3 rfl rfl rfl (by decide +kernel) ⟨(Nat.le_of_ble_eq_true rfl), (Nat.le_of_ble_eq_true rfl)⟩) ⟨(wq_preS (vP_left hP) (vD_left hD) hK hE hS hA [0, 2] rfl (by decide) (As := .ref (X 1) :: [.int v1_101])).1, va_recv (q0 := 0) (ci := 8) hK hP rfl rfl, (wq_preS (vP_left hP) (vD_left hD) hK hE hS hA [0, 2] rfl (by decide) (As := .ref (X 1) :: [.int v1_101])).2⟩ rfl rfl hl.1 rfl (lv_room (Nat.le_of_ble_eq_true rfl)) dX9_compile_136 ⟨(Nat.le_of_ble_eq_true rfl), (Nat.le_of_ble_eq_true rfl)⟩) hS hA hP hD [0, 2] rfl (by decide) (fun _ _ h => by rcases h with ⟨-, rfl⟩; rfl) (fun r u H locs hw hP hD hS => ?_)
                      obtain ⟨hr0, rfl⟩ := hw
                      subst r
                      have hP : va_P D vwCl ((wW_k_X9_compile ty X pn rn tn en rf ea es hn kn on cu pu gw b_1 b_2 b_3 b_p su hds kr kv oa ob an ch cg x20_11_101 mh ml ih lb ic cn c1 c2 c3 c4 c5 c6 wn w1 w2 w3 w4 w5 w6 x36_f_40 x37_f_2) ++ pw ty pp) H := hP
                      have hD : va_D A ((wW_k_X9_compile ty X pn rn tn en rf ea es hn kn on cu pu gw b_1 b_2 b_3 b_p su hds kr kv oa ob an ch cg x20_11_101 mh ml ih lb ic cn c1 c2 c3 c4 c5 c6 wn w1 w2 w3 w4 w5 w6 x36_f_40 x37_f_2) ++ pw ty pp) := hD
                      refine W.widen (k := 0) (n := 0) (Nat.le_of_ble_eq_true rfl) (Nat.le_of_ble_eq_true rfl) ?_
                      obtain ⟨t_139, ht_139⟩ : ∃ t, t = m_k_X9_bitOf on ob t_136 := ⟨_, rfl⟩
                      rw [lE_eq ht_139] at hT
                      refine wq_iQW (wc := (wW_k_X9_bitOf ty X hn kn on cu pu gw ob an ch cg x20_11_101 mh ml ih lb ic)) (pl := pw ty pp) (va_runV (As := [.int t_136]) (rest := [.int x20_11_101, .ref (X 20)]) ⟨hx, hb, hml, hown, hts⟩ (k_X9_bitOf l D ty td mi H.size X hn kn on cu pu gw ob an ch cg x20_11_101 mh ml ih lb ic t_136 t_139 ht_139) (cwV 1 hts gv_k_X9_compile_4 rfl rfl rfl (by decide +kernel) ⟨(Nat.le_of_ble_eq_true rfl), (Nat.le_of_ble_eq_true rfl)⟩) ⟨(wq_preS (vP_left hP) (vD_left hD) hK hE hS hA [4, 12, 13] rfl (by decide) (As := .ref (X 20) :: [.int t_136])).1, va_recv (q0 := 13) (ci := 11) hK hP rfl rfl, (wq_preS (vP_left hP) (vD_left hD) hK hE hS hA [4, 12, 13] rfl (by decide) (As := .ref (X 20) :: [.int t_136])).2⟩ rfl rfl hl.1 rfl (lv_room (Nat.le_of_ble_eq_true rfl)) dX9_compile_139 ⟨(Nat.le_of_ble_eq_true rfl), (Nat.le_of_ble_eq_true rfl)⟩) hS hA hP hD [4, 12, 13] rfl (by decide) (fun _ _ h => by rcases h with ⟨-, rfl⟩; rfl) (fun r u H locs hw hP hD hS => ?_)
                      obtain ⟨hr0, rfl⟩ := hw
                      subst r
                      have hP : va_P D vwCl ((wW_k_X9_compile ty X pn rn tn en rf ea es hn kn on cu pu gw b_1 b_2 b_3 b_p su hds kr kv oa ob an ch cg x20_11_101 mh ml ih lb ic cn c1 c2 c3 c4 c5 c6 wn w1 w2 w3 w4 w5 w6 x36_f_40 x37_f_2) ++ pw ty pp) H := hP
                      have hD : va_D A ((wW_k_X9_compile ty X pn rn tn en rf ea es hn kn on cu pu gw b_1 b_2 b_3 b_p su hds kr kv oa ob an ch cg x20_11_101 mh ml ih lb ic cn c1 c2 c3 c4 c5 c6 wn w1 w2 w3 w4 w5 w6 x36_f_40 x37_f_2) ++ pw ty pp) := hD
                      refine W.widen (k := 0) (n := 0) (Nat.le_of_ble_eq_true rfl) (Nat.le_of_ble_eq_true rfl) ?_
                      refine lv_ior hx hb dX9_compile_142 ?_
                      refine va_put (D := D) (ci := 11) (v := .int (x20_11_101 ||| t_139)) (ty := tyX9 11) (C := RX9) (T := TX9) (N := 17) hx hb hts iv_k_X9_compile_X9 tyX9 tyX9_ok nmX9 hown hK hP hD hS 13 rfl rfl 11 (by decide) (hts (.fieldLink RX9 75 "AnswerFold$Solver" "freeBits" "I") (by decide +kernel)) (fun _ h9 => h9) rfl (by decide +kernel) rfl rfl (Nat.le_of_ble_eq_true rfl) dX9_compile_143 (fun H locs hP hD hS => ?_)
                      have hP : va_P D vwCl ((wW_k_X9_compile ty X pn rn tn en rf ea es hn kn on cu pu gw b_1 b_2 b_3 b_p su hds kr kv oa ob an ch cg (x20_11_101 ||| t_139) mh ml ih lb ic cn c1 c2 c3 c4 c5 c6 wn w1 w2 w3 w4 w5 w6 x36_f_40 x37_f_2) ++ pw ty pp) H := hP
                      have hD : va_D A ((wW_k_X9_compile ty X pn rn tn en rf ea es hn kn on cu pu gw b_1 b_2 b_3 b_p su hds kr kv oa ob an ch cg (x20_11_101 ||| t_139) mh ml ih lb ic cn c1 c2 c3 c4 c5 c6 wn w1 w2 w3 w4 w5 w6 x36_f_40 x37_f_2) ++ pw ty pp) := hD
                      exact J_146 (x20_11_101 ||| t_139) hT _ _ hP hD hS _ (lv_sub hl [0, 1] rfl)
              exact L_101 wF 0 0 (wF_up 0) hT (by decide) _ _ hP hD hS _ (lv_sub hl [1, 0] rfl)
            · rw [if_neg c_2] at hT
              refine lv_aload_n hx hb dX9_compile_51 rfl (lv_at hl 0 rfl) ?_
              refine va_get (D := D) (ci := 11) (v := .ref (X 8)) (C := RX9) (T := TX9) (N := 17) hx hb hts iv_k_X9_compile_X9 hown hK hP 13 rfl rfl 1 (by decide) (hts (.fieldLink RX9 38 "AnswerFold$Solver" "grounding" "LAnswerFold$Grounding;") (by decide +kernel)) (fun _ h9 => h9) rfl dX9_compile_52 ?_
              refine lv_iload_n hx hb dX9_compile_55 rfl (lv_at hl 1 rfl) ?_
              obtain ⟨t_56, ht_56⟩ : ∃ t, t = m_k_X3_openAtomAt oa v1_40 := ⟨_, rfl⟩
              rw [lE_eq ht_56] at hT
              refine wq_iQW (wc := (wW_k_X3_openAtomAt ty X hn kn on cu pu gw oa)) (pl := pw ty pp) (va_runV (As := [.int v1_40]) (rest := []) ⟨hx, hb, hml, hown, hts⟩ (k_X3_openAtomAt l D ty td mi H.size X hn kn on cu pu gw oa v1_40 t_56 ht_56) (cwV 1 hts gv_k_X9_compile_5 rfl rfl rfl (by decide +kernel) ⟨(Nat.le_of_ble_eq_true rfl), (Nat.le_of_ble_eq_true rfl)⟩) ⟨(wq_preS (vP_left hP) (vD_left hD) hK hE hS hA [4, 11] rfl (by decide) (As := .ref (X 8) :: [.int v1_40])).1, va_recv (q0 := 4) (ci := 5) hK hP rfl rfl, (wq_preS (vP_left hP) (vD_left hD) hK hE hS hA [4, 11] rfl (by decide) (As := .ref (X 8) :: [.int v1_40])).2⟩ rfl rfl hl.1 rfl (lv_room (Nat.le_of_ble_eq_true rfl)) dX9_compile_56 ⟨(Nat.le_of_ble_eq_true rfl), (Nat.le_of_ble_eq_true rfl)⟩) hS hA hP hD [4, 11] rfl (by decide) (fun _ _ h => by rcases h with ⟨-, rfl⟩; rfl) (fun r u H locs hw hP hD hS => ?_)
              obtain ⟨hr0, rfl⟩ := hw
              subst r
              have hP : va_P D vwCl ((wW_k_X9_compile ty X pn rn tn en rf ea es hn kn on cu pu gw b_1 b_2 b_3 b_p su hds kr kv oa ob an ch cg fb mh ml ih lb ic cn c1 c2 c3 c4 c5 c6 wn w1 w2 w3 w4 w5 w6 x36_f_40 x37_f_2) ++ pw ty pp) H := hP
              have hD : va_D A ((wW_k_X9_compile ty X pn rn tn en rf ea es hn kn on cu pu gw b_1 b_2 b_3 b_p su hds kr kv oa ob an ch cg fb mh ml ih lb ic cn c1 c2 c3 c4 c5 c6 wn w1 w2 w3 w4 w5 w6 x36_f_40 x37_f_2) ++ pw ty pp) := hD
              refine W.widen (k := 0) (n := 0) (Nat.le_of_ble_eq_true rfl) (Nat.le_of_ble_eq_true rfl) ?_
              refine lv_istore_n (lv' := [(2, .int t_56), (0, .ref (X 20)), (1, .int v1_40)]) hx hb dX9_compile_59 rfl hl (by decide) rfl (fun ls hl => ?_)
              refine lv_iload_n hx hb dX9_compile_60 rfl (lv_at hl 0 rfl) ?_
              have J_88 : ∀ (x36_f_88 : Nat → Int32), TT = m_k_X9_compile_88 (m_k_X9_compile_40 pp rn en rf ea es hn kn on b_1 b_2 b_3 b_p su hds kr kv oa ob c1 c2 c3 c4 c5 c6 w1 w2 w3 w4 w5 w6 x37_f_2 n_40) v1_40 x36_f_88 → ∀ (H : Heap) (locs : List Loc), va_P D vwCl ((wW_k_X9_compile ty X pn rn tn en rf ea es hn kn on cu pu gw b_1 b_2 b_3 b_p su hds kr kv oa ob an ch cg fb mh ml ih lb ic cn c1 c2 c3 c4 c5 c6 wn w1 w2 w3 w4 w5 w6 x36_f_88 x37_f_2) ++ pw ty pp) H → va_D A ((wW_k_X9_compile ty X pn rn tn en rf ea es hn kn on cu pu gw b_1 b_2 b_3 b_p su hds kr kv oa ob an ch cg fb mh ml ih lb ic cn c1 c2 c3 c4 c5 c6 wn w1 w2 w3 w4 w5 w6 x36_f_88 x37_f_2) ++ pw ty pp) → va_S A s.heap H locs → ∀ ls : Array Slot, lv_has ls 3 [(0, .ref (X 20)), (1, .int v1_40)] → W p l e (headSpec vs_k_X9_compile { frames := 5, cells := 0, slots := 0, locals := 126 }).room s m ([.ref (X 20)] : List Value).toArray below meth c H locs 0 0 (MQ below (va_Qv (fun u : va_W => ((u = ((wW_k_X9_compile ty X pn rn tn en rf ea es TT.2.2.2.2.2.2.2.2.2.2.2.2.2.2.2.2.2.2.2.2.2.1 kn on cu pu gw TT.2.2.2.2.2.2.2.2.2.2.2.2.2.2.2.2.2.2.2.2.2.2.1 TT.2.2.2.2.2.2.2.2.2.2.2.2.2.2.2.2.2.2.2.2.2.2.2.1 TT.2.2.2.2.2.2.2.2.2.2.2.2.2.2.2.2.2.2.2.2.2.2.2.2.1 TT.2.2.2.2.2.2.2.2.2.2.2.2.2.2.2.2.2.2.2.2.2.2.2.2.2 su TT.1 kr kv oa ob an TT.2.2.2.2.1 TT.2.1 TT.2.2.1 mh ml ih TT.2.2.2.1 ic TT.2.2.2.2.2.1 TT.2.2.2.2.2.2.1 TT.2.2.2.2.2.2.2.1 TT.2.2.2.2.2.2.2.2.1 TT.2.2.2.2.2.2.2.2.2.1 TT.2.2.2.2.2.2.2.2.2.2.1 TT.2.2.2.2.2.2.2.2.2.2.2.1 TT.2.2.2.2.2.2.2.2.2.2.2.2.1 TT.2.2.2.2.2.2.2.2.2.2.2.2.2.1 TT.2.2.2.2.2.2.2.2.2.2.2.2.2.2.1 TT.2.2.2.2.2.2.2.2.2.2.2.2.2.2.2.1 TT.2.2.2.2.2.2.2.2.2.2.2.2.2.2.2.2.1 TT.2.2.2.2.2.2.2.2.2.2.2.2.2.2.2.2.2.1 TT.2.2.2.2.2.2.2.2.2.2.2.2.2.2.2.2.2.2.1 TT.2.2.2.2.2.2.2.2.2.2.2.2.2.2.2.2.2.2.2.1 TT.2.2.2.2.2.2.2.2.2.2.2.2.2.2.2.2.2.2.2.2.1) ++ pw ty pp)))) (wq_B D A) A) ([.ref (X 20)] : List Value).toArray s 0 0 A) (F0 m 88 ls []) := by
                intro x36_f_88 hT  H locs hP hD hS ls hl
                rw [m_k_X9_compile_88] at hT
                refine lv_iinc (v := v1_40 + 1) (lv' := [(1, .int (v1_40 + 1)), (0, .ref (X 20))]) hx hb dX9_compile_88 hl (k := 1) rfl (by rfl) (by decide) rfl (fun ls hl => ?_)
                refine lv_goto (tgt := 40) hx hb dX9_compile_91 (by decide) ?_
                exact ih_40 (v1_40 + 1) x36_f_88 (wi_up hu_40 (Int32.not_le.mp c_2)) hT (wi_inc hn_40 (Int32.not_le.mp c_2)) _ _ hP hD hS _ (lv_sub hl [1, 0] rfl)
              refine lv_if_lt (tgt := 88) hx hb dX9_compile_61 (by decide) (fun c_18 => ?_) (fun c_18 => ?_)
              · rw [if_pos c_18] at hT
                exact J_88 x36_f_40 hT _ _ hP hD hS _ (lv_sub hl [1, 2] rfl)
              · rw [if_neg c_18] at hT
                refine lv_iload_n hx hb dX9_compile_64 rfl (lv_at hl 0 rfl) ?_
                refine lv_sipush (v := 384) hx hb dX9_compile_65 (by decide) ?_
                refine lv_icmp_ge (tgt := 88) hx hb dX9_compile_68 (by decide) (fun c_19 => ?_) (fun c_19 => ?_)
                · rw [if_pos c_19] at hT
                  exact J_88 x36_f_40 hT _ _ hP hD hS _ (lv_sub hl [1, 2] rfl)
                · rw [if_neg c_19] at hT
                  refine lv_aload_n hx hb dX9_compile_71 rfl (lv_at hl 1 rfl) ?_
                  refine va_get (D := D) (ci := 11) (v := .ref (X 36)) (C := RX9) (T := TX9) (N := 17) hx hb hts iv_k_X9_compile_X9 hown hK hP 13 rfl rfl 6 (by decide) (hts (.fieldLink RX9 25 "AnswerFold$Solver" "openBits" "[I") (by decide +kernel)) (fun _ h9 => h9) rfl dX9_compile_72 ?_
                  refine lv_iload_n hx hb dX9_compile_75 rfl (lv_at hl 0 rfl) ?_
                  refine lv_bipush (v := 64) hx hb dX9_compile_76 (by decide) ?_
                  refine lv_idiv hx hb dX9_compile_78 (by decide) ?_
                  refine lv_dup2_11 hx hb dX9_compile_79 rfl rfl ?_
                  refine va_iald (D := D) hx hb hK hP 28 0 rfl rfl (wi_div (m := 384) (wi_lo c_18) (wi_hi c_19 (by decide)) rfl (by decide)) dX9_compile_80 ?_
                  refine lv_aload_n hx hb dX9_compile_81 rfl (lv_at hl 1 rfl) ?_
                  refine lv_iload_n hx hb dX9_compile_82 rfl (lv_at hl 0 rfl) ?_
                  obtain ⟨t_83, ht_83⟩ : ∃ t, t = m_k_X9_bitOf on ob t_56 := ⟨_, rfl⟩
                  rw [lE_eq ht_83] at hT
                  refine wq_iQW (wc := (wW_k_X9_bitOf ty X hn kn on cu pu gw ob an ch cg fb mh ml ih lb ic)) (pl := pw ty pp) (va_runV (As := [.int t_56]) (rest := [.int (x36_f_40 (t_56 / 64).toNatClampNeg), .int (t_56 / 64), .ref (X 36)]) ⟨hx, hb, hml, hown, hts⟩ (k_X9_bitOf l D ty td mi H.size X hn kn on cu pu gw ob an ch cg fb mh ml ih lb ic t_56 t_83 ht_83) (cwV 1 hts gv_k_X9_compile_6 rfl rfl rfl (by decide +kernel) ⟨(Nat.le_of_ble_eq_true rfl), (Nat.le_of_ble_eq_true rfl)⟩) ⟨(wq_preS (vP_left hP) (vD_left hD) hK hE hS hA [4, 12, 13] rfl (by decide) (As := .ref (X 20) :: [.int t_56])).1, va_recv (q0 := 13) (ci := 11) hK hP rfl rfl, (wq_preS (vP_left hP) (vD_left hD) hK hE hS hA [4, 12, 13] rfl (by decide) (As := .ref (X 20) :: [.int t_56])).2⟩ rfl rfl hl.1 rfl (lv_room (Nat.le_of_ble_eq_true rfl)) dX9_compile_83 ⟨(Nat.le_of_ble_eq_true rfl), (Nat.le_of_ble_eq_true rfl)⟩) hS hA hP hD [4, 12, 13] rfl (by decide) (fun _ _ h => by rcases h with ⟨-, rfl⟩; rfl) (fun r u H locs hw hP hD hS => ?_)
                  obtain ⟨hr0, rfl⟩ := hw
                  subst r
                  have hP : va_P D vwCl ((wW_k_X9_compile ty X pn rn tn en rf ea es hn kn on cu pu gw b_1 b_2 b_3 b_p su hds kr kv oa ob an ch cg fb mh ml ih lb ic cn c1 c2 c3 c4 c5 c6 wn w1 w2 w3 w4 w5 w6 x36_f_40 x37_f_2) ++ pw ty pp) H := hP
                  have hD : va_D A ((wW_k_X9_compile ty X pn rn tn en rf ea es hn kn on cu pu gw b_1 b_2 b_3 b_p su hds kr kv oa ob an ch cg fb mh ml ih lb ic cn c1 c2 c3 c4 c5 c6 wn w1 w2 w3 w4 w5 w6 x36_f_40 x37_f_2) ++ pw ty pp) := hD
                  refine W.widen (k := 0) (n := 0) (Nat.le_of_ble_eq_true rfl) (Nat.le_of_ble_eq_true rfl) ?_
                  refine lv_ior hx hb dX9_compile_86 ?_
                  refine va_iast (D := D) hx hb hK hP hD hS 28 0 rfl rfl (wi_div (m := 384) (wi_lo c_18) (wi_hi c_19 (by decide)) rfl (by decide)) dX9_compile_87 (fun H locs hP hD hS => ?_)
                  have hP : va_P D vwCl ((wW_k_X9_compile ty X pn rn tn en rf ea es hn kn on cu pu gw b_1 b_2 b_3 b_p su hds kr kv oa ob an ch cg fb mh ml ih lb ic cn c1 c2 c3 c4 c5 c6 wn w1 w2 w3 w4 w5 w6 (upd x36_f_40 ((t_56 / 64).toNatClampNeg) ((x36_f_40 (t_56 / 64).toNatClampNeg) ||| t_83)) x37_f_2) ++ pw ty pp) H := hP
                  have hD : va_D A ((wW_k_X9_compile ty X pn rn tn en rf ea es hn kn on cu pu gw b_1 b_2 b_3 b_p su hds kr kv oa ob an ch cg fb mh ml ih lb ic cn c1 c2 c3 c4 c5 c6 wn w1 w2 w3 w4 w5 w6 (upd x36_f_40 ((t_56 / 64).toNatClampNeg) ((x36_f_40 (t_56 / 64).toNatClampNeg) ||| t_83)) x37_f_2) ++ pw ty pp) := hD
                  exact J_88 (upd x36_f_40 ((t_56 / 64).toNatClampNeg) ((x36_f_40 (t_56 / 64).toNatClampNeg) ||| t_83)) hT _ _ hP hD hS _ (lv_sub hl [1, 2] rfl)
        exact L_40 wF 0 x36_f_2 (wF_up 0) hT (by decide) _ _ hP hD hS _ (lv_sub hl [1, 0] rfl)
      · rw [if_neg c_1] at hT
        refine lv_aload_n hx hb dX9_compile_8 rfl (lv_at hl 0 rfl) ?_
        refine va_get (D := D) (ci := 11) (v := .ref (X 36)) (C := RX9) (T := TX9) (N := 17) hx hb hts iv_k_X9_compile_X9 hown hK hP 13 rfl rfl 6 (by decide) (hts (.fieldLink RX9 25 "AnswerFold$Solver" "openBits" "[I") (by decide +kernel)) (fun _ h9 => h9) rfl dX9_compile_9 ?_
        refine lv_iload_n hx hb dX9_compile_12 rfl (lv_at hl 1 rfl) ?_
        refine lv_iconst (v := 0) hx hb dX9_compile_13 (by decide) ?_
        refine va_iast (D := D) hx hb hK hP hD hS 28 0 rfl rfl (wi_in hn_2 (wi_hi c_1 (by decide))) dX9_compile_14 (fun H locs hP hD hS => ?_)
        have hP : va_P D vwCl ((wW_k_X9_compile ty X pn rn tn en rf ea es hn kn on cu pu gw b_1 b_2 b_3 b_p su hds kr kv oa ob an ch cg fb mh ml ih lb ic cn c1 c2 c3 c4 c5 c6 wn w1 w2 w3 w4 w5 w6 (upd x36_f_2 v1_2.toNatClampNeg 0) x37_f_2) ++ pw ty pp) H := hP
        have hD : va_D A ((wW_k_X9_compile ty X pn rn tn en rf ea es hn kn on cu pu gw b_1 b_2 b_3 b_p su hds kr kv oa ob an ch cg fb mh ml ih lb ic cn c1 c2 c3 c4 c5 c6 wn w1 w2 w3 w4 w5 w6 (upd x36_f_2 v1_2.toNatClampNeg 0) x37_f_2) ++ pw ty pp) := hD
        refine lv_aload_n hx hb dX9_compile_15 rfl (lv_at hl 0 rfl) ?_
        refine va_get (D := D) (ci := 11) (v := .ref (X 37)) (C := RX9) (T := TX9) (N := 17) hx hb hts iv_k_X9_compile_X9 hown hK hP 13 rfl rfl 7 (by decide) (hts (.fieldLink RX9 28 "AnswerFold$Solver" "sureCounts" "[I") (by decide +kernel)) (fun _ h9 => h9) rfl dX9_compile_16 ?_
        refine lv_iload_n hx hb dX9_compile_19 rfl (lv_at hl 1 rfl) ?_
        refine lv_aload_n hx hb dX9_compile_20 rfl (lv_at hl 0 rfl) ?_
        refine va_get (D := D) (ci := 11) (v := .ref (X 8)) (C := RX9) (T := TX9) (N := 17) hx hb hts iv_k_X9_compile_X9 hown hK hP 13 rfl rfl 1 (by decide) (hts (.fieldLink RX9 38 "AnswerFold$Solver" "grounding" "LAnswerFold$Grounding;") (by decide +kernel)) (fun _ h9 => h9) rfl dX9_compile_21 ?_
        refine va_getN (D := D) (ci := 5) (v := .ref (X 10)) (C := RX3) (T := TX3) (N := 16) hx hb hts iv_k_X9_compile_X3 hown hK hP 4 rfl rfl 2 (by decide) (hE.at (.fieldLinkNest "AnswerFold$Solver" 53 "AnswerFold$Grounding" "sure" "LAnswerFold$AtomSet;" "AnswerFold") (by decide +kernel)) (fun _ h9 => h9) rfl dX9_compile_24 ?_
        refine lv_iload_n hx hb dX9_compile_27 rfl (lv_at hl 1 rfl) ?_
        obtain ⟨t_28, ht_28⟩ : ∃ t, t = m_k_X1_countOf su v1_2 := ⟨_, rfl⟩
        rw [lE_eq ht_28] at hT
        refine wq_iQW (wc := (wW_k_X1_countOf ty (X 10) (X 11) su)) (pl := pw ty pp) (va_runV (As := [.int v1_2]) (rest := [.int v1_2, .ref (X 37)]) ⟨hx, hb, hml, hown, hts⟩ (k_X1_countOf l D ty td mi H.size (X 10) (X 11) su v1_2 t_28 ht_28) (cwV 1 hts gv_k_X9_compile_7 rfl rfl rfl (by decide +kernel) ⟨(Nat.le_of_ble_eq_true rfl), (Nat.le_of_ble_eq_true rfl)⟩) ⟨(wq_preS (vP_left hP) (vD_left hD) hK hE hS hA [6, 7] rfl (by decide) (As := .ref (X 10) :: [.int v1_2])).1, va_recv (q0 := 6) (ci := 3) hK hP rfl rfl, (wq_preS (vP_left hP) (vD_left hD) hK hE hS hA [6, 7] rfl (by decide) (As := .ref (X 10) :: [.int v1_2])).2⟩ rfl rfl hl.1 rfl (lv_room (Nat.le_of_ble_eq_true rfl)) dX9_compile_28 ⟨(Nat.le_of_ble_eq_true rfl), (Nat.le_of_ble_eq_true rfl)⟩) hS hA hP hD [6, 7] rfl (by decide) (fun _ _ h => by rcases h with ⟨-, rfl⟩; rfl) (fun r u H locs hw hP hD hS => ?_)
        obtain ⟨hr0, rfl⟩ := hw
        subst r
        have hP : va_P D vwCl ((wW_k_X9_compile ty X pn rn tn en rf ea es hn kn on cu pu gw b_1 b_2 b_3 b_p su hds kr kv oa ob an ch cg fb mh ml ih lb ic cn c1 c2 c3 c4 c5 c6 wn w1 w2 w3 w4 w5 w6 (upd x36_f_2 v1_2.toNatClampNeg 0) x37_f_2) ++ pw ty pp) H := hP
        have hD : va_D A ((wW_k_X9_compile ty X pn rn tn en rf ea es hn kn on cu pu gw b_1 b_2 b_3 b_p su hds kr kv oa ob an ch cg fb mh ml ih lb ic cn c1 c2 c3 c4 c5 c6 wn w1 w2 w3 w4 w5 w6 (upd x36_f_2 v1_2.toNatClampNeg 0) x37_f_2) ++ pw ty pp) := hD
        refine W.widen (k := 0) (n := 0) (Nat.le_of_ble_eq_true rfl) (Nat.le_of_ble_eq_true rfl) ?_
        refine va_iast (D := D) hx hb hK hP hD hS 29 0 rfl rfl (wi_in hn_2 (wi_hi c_1 (by decide))) dX9_compile_31 (fun H locs hP hD hS => ?_)
        have hP : va_P D vwCl ((wW_k_X9_compile ty X pn rn tn en rf ea es hn kn on cu pu gw b_1 b_2 b_3 b_p su hds kr kv oa ob an ch cg fb mh ml ih lb ic cn c1 c2 c3 c4 c5 c6 wn w1 w2 w3 w4 w5 w6 (upd x36_f_2 v1_2.toNatClampNeg 0) (upd x37_f_2 v1_2.toNatClampNeg t_28)) ++ pw ty pp) H := hP
        have hD : va_D A ((wW_k_X9_compile ty X pn rn tn en rf ea es hn kn on cu pu gw b_1 b_2 b_3 b_p su hds kr kv oa ob an ch cg fb mh ml ih lb ic cn c1 c2 c3 c4 c5 c6 wn w1 w2 w3 w4 w5 w6 (upd x36_f_2 v1_2.toNatClampNeg 0) (upd x37_f_2 v1_2.toNatClampNeg t_28)) ++ pw ty pp) := hD
        refine lv_iinc (v := v1_2 + 1) (lv' := [(1, .int (v1_2 + 1)), (0, .ref (X 20))]) hx hb dX9_compile_32 hl (k := 1) rfl (by rfl) (by decide) rfl (fun ls hl => ?_)
        refine lv_goto (tgt := 2) hx hb dX9_compile_35 (by decide) ?_
        exact ih_2 (v1_2 + 1) (upd x36_f_2 v1_2.toNatClampNeg 0) (upd x37_f_2 v1_2.toNatClampNeg t_28) (wi_up hu_2 (Int32.not_le.mp c_1)) hT (wi_inc hn_2 (Int32.not_le.mp c_1)) _ _ hP hD hS _ (lv_sub hl [1, 0] rfl)
  exact L_2 wF 0 obi sc (wF_up 0) hT (by decide) _ _ hP hD hS _ (lv_sub hl [1, 0] rfl)
theorem dX9_fitAssumptions_0 : decode cX9_fitAssumptions 0 = .ok (.aload_n 0, 1) := by decide +kernel
theorem dX9_fitAssumptions_1 : decode cX9_fitAssumptions 1 = .ok (.iconst 0, 1) := by decide +kernel
theorem dX9_fitAssumptions_2 : decode cX9_fitAssumptions 2 = .ok (.putfield 182, 3) := by decide +kernel
theorem dX9_fitAssumptions_5 : decode cX9_fitAssumptions 5 = .ok (.aload_n 0, 1) := by decide +kernel
theorem dX9_fitAssumptions_6 : decode cX9_fitAssumptions 6 = .ok (.iconst 0, 1) := by decide +kernel
theorem dX9_fitAssumptions_7 : decode cX9_fitAssumptions 7 = .ok (.putfield 185, 3) := by decide +kernel
theorem dX9_fitAssumptions_10 : decode cX9_fitAssumptions 10 = .ok (.aload_n 0, 1) := by decide +kernel
theorem dX9_fitAssumptions_11 : decode cX9_fitAssumptions 11 = .ok (.iconst 0, 1) := by decide +kernel
theorem dX9_fitAssumptions_12 : decode cX9_fitAssumptions 12 = .ok (.putfield 188, 3) := by decide +kernel
theorem dX9_fitAssumptions_15 : decode cX9_fitAssumptions 15 = .ok (.iconst 0, 1) := by decide +kernel
theorem dX9_fitAssumptions_16 : decode cX9_fitAssumptions 16 = .ok (.istore_n 3, 1) := by decide +kernel
theorem dX9_fitAssumptions_17 : decode cX9_fitAssumptions 17 = .ok (.iload_n 3, 1) := by decide +kernel
theorem dX9_fitAssumptions_18 : decode cX9_fitAssumptions 18 = .ok (.sipush 384, 3) := by decide +kernel
theorem dX9_fitAssumptions_21 : decode cX9_fitAssumptions 21 = .ok (.if_icmp .ge 113, 3) := by decide +kernel
theorem dX9_fitAssumptions_24 : decode cX9_fitAssumptions 24 = .ok (.aload_n 1, 1) := by decide +kernel
theorem dX9_fitAssumptions_25 : decode cX9_fitAssumptions 25 = .ok (.iload_n 3, 1) := by decide +kernel
theorem dX9_fitAssumptions_26 : decode cX9_fitAssumptions 26 = .ok (.invokevirtual 191, 3) := by decide +kernel
theorem dX9_fitAssumptions_29 : decode cX9_fitAssumptions 29 = .ok (.ifCond .eq 47, 3) := by decide +kernel
theorem dX9_fitAssumptions_32 : decode cX9_fitAssumptions 32 = .ok (.aload_n 0, 1) := by decide +kernel
theorem dX9_fitAssumptions_33 : decode cX9_fitAssumptions 33 = .ok (.dup, 1) := by decide +kernel
theorem dX9_fitAssumptions_34 : decode cX9_fitAssumptions 34 = .ok (.getfield 182, 3) := by decide +kernel
theorem dX9_fitAssumptions_37 : decode cX9_fitAssumptions 37 = .ok (.aload_n 0, 1) := by decide +kernel
theorem dX9_fitAssumptions_38 : decode cX9_fitAssumptions 38 = .ok (.iload_n 3, 1) := by decide +kernel
theorem dX9_fitAssumptions_39 : decode cX9_fitAssumptions 39 = .ok (.invokevirtual 72, 3) := by decide +kernel
theorem dX9_fitAssumptions_42 : decode cX9_fitAssumptions 42 = .ok (.ior, 1) := by decide +kernel
theorem dX9_fitAssumptions_43 : decode cX9_fitAssumptions 43 = .ok (.putfield 182, 3) := by decide +kernel
theorem dX9_fitAssumptions_46 : decode cX9_fitAssumptions 46 = .ok (.aload_n 0, 1) := by decide +kernel
theorem dX9_fitAssumptions_47 : decode cX9_fitAssumptions 47 = .ok (.aload_n 0, 1) := by decide +kernel
theorem dX9_fitAssumptions_48 : decode cX9_fitAssumptions 48 = .ok (.getfield 188, 3) := by decide +kernel
theorem dX9_fitAssumptions_51 : decode cX9_fitAssumptions 51 = .ok (.ifCond .ne 17, 3) := by decide +kernel
theorem dX9_fitAssumptions_54 : decode cX9_fitAssumptions 54 = .ok (.aload_n 0, 1) := by decide +kernel
theorem dX9_fitAssumptions_55 : decode cX9_fitAssumptions 55 = .ok (.getfield 38, 3) := by decide +kernel
theorem dX9_fitAssumptions_58 : decode cX9_fitAssumptions 58 = .ok (.getfield 195, 3) := by decide +kernel
theorem dX9_fitAssumptions_61 : decode cX9_fitAssumptions 61 = .ok (.iload_n 3, 1) := by decide +kernel
theorem dX9_fitAssumptions_62 : decode cX9_fitAssumptions 62 = .ok (.invokevirtual 191, 3) := by decide +kernel
theorem dX9_fitAssumptions_65 : decode cX9_fitAssumptions 65 = .ok (.ifCond .ne 7, 3) := by decide +kernel
theorem dX9_fitAssumptions_68 : decode cX9_fitAssumptions 68 = .ok (.iconst 1, 1) := by decide +kernel
theorem dX9_fitAssumptions_69 : decode cX9_fitAssumptions 69 = .ok (.goto 4, 3) := by decide +kernel
theorem dX9_fitAssumptions_72 : decode cX9_fitAssumptions 72 = .ok (.iconst 0, 1) := by decide +kernel
theorem dX9_fitAssumptions_73 : decode cX9_fitAssumptions 73 = .ok (.putfield 188, 3) := by decide +kernel
theorem dX9_fitAssumptions_76 : decode cX9_fitAssumptions 76 = .ok (.aload_n 2, 1) := by decide +kernel
theorem dX9_fitAssumptions_77 : decode cX9_fitAssumptions 77 = .ok (.iload_n 3, 1) := by decide +kernel
theorem dX9_fitAssumptions_78 : decode cX9_fitAssumptions 78 = .ok (.invokevirtual 191, 3) := by decide +kernel
theorem dX9_fitAssumptions_81 : decode cX9_fitAssumptions 81 = .ok (.ifCond .eq 47, 3) := by decide +kernel
theorem dX9_fitAssumptions_84 : decode cX9_fitAssumptions 84 = .ok (.aload_n 0, 1) := by decide +kernel
theorem dX9_fitAssumptions_85 : decode cX9_fitAssumptions 85 = .ok (.dup, 1) := by decide +kernel
theorem dX9_fitAssumptions_86 : decode cX9_fitAssumptions 86 = .ok (.getfield 185, 3) := by decide +kernel
theorem dX9_fitAssumptions_89 : decode cX9_fitAssumptions 89 = .ok (.aload_n 0, 1) := by decide +kernel
theorem dX9_fitAssumptions_90 : decode cX9_fitAssumptions 90 = .ok (.iload_n 3, 1) := by decide +kernel
theorem dX9_fitAssumptions_91 : decode cX9_fitAssumptions 91 = .ok (.invokevirtual 72, 3) := by decide +kernel
theorem dX9_fitAssumptions_94 : decode cX9_fitAssumptions 94 = .ok (.ior, 1) := by decide +kernel
theorem dX9_fitAssumptions_95 : decode cX9_fitAssumptions 95 = .ok (.putfield 185, 3) := by decide +kernel
theorem dX9_fitAssumptions_98 : decode cX9_fitAssumptions 98 = .ok (.aload_n 0, 1) := by decide +kernel
theorem dX9_fitAssumptions_99 : decode cX9_fitAssumptions 99 = .ok (.aload_n 0, 1) := by decide +kernel
theorem dX9_fitAssumptions_100 : decode cX9_fitAssumptions 100 = .ok (.getfield 188, 3) := by decide +kernel
theorem dX9_fitAssumptions_103 : decode cX9_fitAssumptions 103 = .ok (.ifCond .ne 17, 3) := by decide +kernel
theorem dX9_fitAssumptions_106 : decode cX9_fitAssumptions 106 = .ok (.aload_n 0, 1) := by decide +kernel
theorem dX9_fitAssumptions_107 : decode cX9_fitAssumptions 107 = .ok (.getfield 38, 3) := by decide +kernel
theorem dX9_fitAssumptions_110 : decode cX9_fitAssumptions 110 = .ok (.getfield 53, 3) := by decide +kernel
theorem dX9_fitAssumptions_113 : decode cX9_fitAssumptions 113 = .ok (.iload_n 3, 1) := by decide +kernel
theorem dX9_fitAssumptions_114 : decode cX9_fitAssumptions 114 = .ok (.invokevirtual 191, 3) := by decide +kernel
theorem dX9_fitAssumptions_117 : decode cX9_fitAssumptions 117 = .ok (.ifCond .eq 7, 3) := by decide +kernel
theorem dX9_fitAssumptions_120 : decode cX9_fitAssumptions 120 = .ok (.iconst 1, 1) := by decide +kernel
theorem dX9_fitAssumptions_121 : decode cX9_fitAssumptions 121 = .ok (.goto 4, 3) := by decide +kernel
theorem dX9_fitAssumptions_124 : decode cX9_fitAssumptions 124 = .ok (.iconst 0, 1) := by decide +kernel
theorem dX9_fitAssumptions_125 : decode cX9_fitAssumptions 125 = .ok (.putfield 188, 3) := by decide +kernel
theorem dX9_fitAssumptions_128 : decode cX9_fitAssumptions 128 = .ok (.iinc 3 1, 3) := by decide +kernel
theorem dX9_fitAssumptions_131 : decode cX9_fitAssumptions 131 = .ok (.goto (-114), 3) := by decide +kernel
theorem dX9_fitAssumptions_134 : decode cX9_fitAssumptions 134 = .ok (.return_, 1) := by decide +kernel
def wW_k_X9_fitAssumptions (ty : Nat → ClassId) (X : Nat → Nat) (z9_0 : Int32) (z9_1 : Int32) (z9_2 : Int32) (z9_3 : Int32) (z9_4 : Int32) (z9_5 : Int32) (z9_6 : Nat → Int64) (z9_7 : Nat → Int64) (z9_8 : Nat → Int32) (z9_9 : Int32) (z9_10 : Int32) (z9_11 : Int32) (z9_12 : Int32) (z9_13 : Int32) (z9_14 : Int32) (z9_15 : Int32) (z9_16 : Int32) (z9_17 : Int32) (z9_18 : Nat → Int64) (z9_19 : Nat → Int64) : va_W := [((X 8), .inr (5, [.ref (X 1), .ref (X 9), .ref (X 10), .ref (X 12), .ref (X 14), .int z9_0, .ref (X 15), .ref (X 16), .ref (X 17), .int z9_1, .ref (X 18), .ref (X 19), .int z9_2, .int z9_3, .int z9_4, .int z9_5])), ((X 10), .inr (3, [.ref (X 11)])), ((X 11), .inl (ty 1, 6, .inr (.inl z9_6))), ((X 12), .inr (3, [.ref (X 13)])), ((X 13), .inl (ty 1, 6, .inr (.inl z9_7))), ((X 19), .inl (ty 0, 384, .inl z9_8)), ((X 20), .inr (11, [.ref (X 1), .ref (X 8), .ref (X 21), .ref (X 28), .ref (X 35), .int z9_9, .ref (X 36), .ref (X 37), .ref (X 38), .int z9_10, .int z9_11, .int z9_12, .int z9_13, .int z9_14, .int z9_15, .int z9_16, .int z9_17])), ((X 41), .inr (3, [.ref (X 42)])), ((X 42), .inl (ty 1, 6, .inr (.inl z9_18))), ((X 43), .inr (3, [.ref (X 44)])), ((X 44), .inl (ty 1, 6, .inr (.inl z9_19)))]
abbrev r_k_X9_fitAssumptions : Type := Int32 × Int32 × Int32
def m_k_X9_fitAssumptions_128 (rec_17 : Int32 → Int32 → Int32 → Int32 → r_k_X9_fitAssumptions) (v3_17 : Int32) (x20_12_76 : Int32) (x20_13_128 : Int32) (x20_14_128 : Int32) : r_k_X9_fitAssumptions :=
  rec_17 (v3_17 + 1) x20_12_76 x20_13_128 x20_14_128
def m_k_X9_fitAssumptions_125 (rec_17 : Int32 → Int32 → Int32 → Int32 → r_k_X9_fitAssumptions) (t_91 : r_k_X9_bitOf) (v3_17 : Int32) (x20_12_76 : Int32) (x20_13_17 : Int32) (s0_125 : Int32) : r_k_X9_fitAssumptions :=
  m_k_X9_fitAssumptions_128 rec_17 v3_17 x20_12_76 (x20_13_17 ||| t_91) s0_125
def m_k_X9_fitAssumptions_120 (rec_17 : Int32 → Int32 → Int32 → Int32 → r_k_X9_fitAssumptions) (t_91 : r_k_X9_bitOf) (v3_17 : Int32) (x20_12_76 : Int32) (x20_13_17 : Int32) : r_k_X9_fitAssumptions :=
  m_k_X9_fitAssumptions_125 rec_17 t_91 v3_17 x20_12_76 x20_13_17 1
def m_k_X9_fitAssumptions_76 (on : Int32) (su : Nat → Int64) (ob : Nat → Int32) (ao : Nat → Int64) (rec_17 : Int32 → Int32 → Int32 → Int32 → r_k_X9_fitAssumptions) (v3_17 : Int32) (x20_13_17 : Int32) (x20_12_76 : Int32) (x20_14_76 : Int32) : r_k_X9_fitAssumptions :=
  lE (m_k_X1_contains ao v3_17) (fun t_78 =>
    if t_78 = 0 then
      m_k_X9_fitAssumptions_128 rec_17 v3_17 x20_12_76 x20_13_17 x20_14_76
    else
      lE (m_k_X9_bitOf on ob v3_17) (fun t_91 =>
        if x20_14_76 = 0 then
          lE (m_k_X1_contains su v3_17) (fun t_114 =>
            if t_114 = 0 then
              m_k_X9_fitAssumptions_125 rec_17 t_91 v3_17 x20_12_76 x20_13_17 0
            else
              m_k_X9_fitAssumptions_120 rec_17 t_91 v3_17 x20_12_76 x20_13_17)
        else
          m_k_X9_fitAssumptions_120 rec_17 t_91 v3_17 x20_12_76 x20_13_17))
def m_k_X9_fitAssumptions_73 (on : Int32) (su : Nat → Int64) (ob : Nat → Int32) (ao : Nat → Int64) (rec_17 : Int32 → Int32 → Int32 → Int32 → r_k_X9_fitAssumptions) (t_39 : r_k_X9_bitOf) (v3_17 : Int32) (x20_12_17 : Int32) (x20_13_17 : Int32) (s0_73 : Int32) : r_k_X9_fitAssumptions :=
  m_k_X9_fitAssumptions_76 on su ob ao rec_17 v3_17 x20_13_17 (x20_12_17 ||| t_39) s0_73
def m_k_X9_fitAssumptions_68 (on : Int32) (su : Nat → Int64) (ob : Nat → Int32) (ao : Nat → Int64) (rec_17 : Int32 → Int32 → Int32 → Int32 → r_k_X9_fitAssumptions) (t_39 : r_k_X9_bitOf) (v3_17 : Int32) (x20_12_17 : Int32) (x20_13_17 : Int32) : r_k_X9_fitAssumptions :=
  m_k_X9_fitAssumptions_73 on su ob ao rec_17 t_39 v3_17 x20_12_17 x20_13_17 1
def m_k_X9_fitAssumptions_17s (on : Int32) (su : Nat → Int64) (po : Nat → Int64) (ob : Nat → Int32) (ai : Nat → Int64) (ao : Nat → Int64) (rec_17 : Int32 → Int32 → Int32 → Int32 → r_k_X9_fitAssumptions) (v3_17 : Int32) (x20_12_17 : Int32) (x20_13_17 : Int32) (x20_14_17 : Int32) : r_k_X9_fitAssumptions :=
  if 384 ≤ v3_17 then
    (x20_12_17, x20_13_17, x20_14_17)
  else
    lE (m_k_X1_contains ai v3_17) (fun t_26 =>
      if t_26 = 0 then
        m_k_X9_fitAssumptions_76 on su ob ao rec_17 v3_17 x20_13_17 x20_12_17 x20_14_17
      else
        lE (m_k_X9_bitOf on ob v3_17) (fun t_39 =>
          if x20_14_17 = 0 then
            lE (m_k_X1_contains po v3_17) (fun t_62 =>
              if t_62 = 0 then
                m_k_X9_fitAssumptions_68 on su ob ao rec_17 t_39 v3_17 x20_12_17 x20_13_17
              else
                m_k_X9_fitAssumptions_73 on su ob ao rec_17 t_39 v3_17 x20_12_17 x20_13_17 0)
          else
            m_k_X9_fitAssumptions_68 on su ob ao rec_17 t_39 v3_17 x20_12_17 x20_13_17))
def m_k_X9_fitAssumptions_17 (on : Int32) (su : Nat → Int64) (po : Nat → Int64) (ob : Nat → Int32) (ai : Nat → Int64) (ao : Nat → Int64) : Nat → Int32 → Int32 → Int32 → Int32 → r_k_X9_fitAssumptions
  | 0, _, _, _, _ => (0, 0, 0)
  | n + 1, v3_17, x20_12_17, x20_13_17, x20_14_17 => m_k_X9_fitAssumptions_17s on su po ob ai ao (fun v3_17 x20_12_17 x20_13_17 x20_14_17 => m_k_X9_fitAssumptions_17 on su po ob ai ao n v3_17 x20_12_17 x20_13_17 x20_14_17) v3_17 x20_12_17 x20_13_17 x20_14_17
theorem m_k_X9_fitAssumptions_17_succ (on : Int32) (su : Nat → Int64) (po : Nat → Int64) (ob : Nat → Int32) (ai : Nat → Int64) (ao : Nat → Int64) (n : Nat) (v3_17 : Int32) (x20_12_17 : Int32) (x20_13_17 : Int32) (x20_14_17 : Int32) : m_k_X9_fitAssumptions_17 on su po ob ai ao (n + 1) v3_17 x20_12_17 x20_13_17 x20_14_17 = m_k_X9_fitAssumptions_17s on su po ob ai ao (m_k_X9_fitAssumptions_17 on su po ob ai ao n) v3_17 x20_12_17 x20_13_17 x20_14_17 := rfl
def m_k_X9_fitAssumptions (on : Int32) (su : Nat → Int64) (po : Nat → Int64) (ob : Nat → Int32) (ai : Nat → Int64) (ao : Nat → Int64) : r_k_X9_fitAssumptions :=
  m_k_X9_fitAssumptions_17 on su po ob ai ao wF 0 0 0 0
def vs_k_X9_fitAssumptions : List Cond := .code yX9_fitAssumptions cX9_fitAssumptions 4 none :: ([.fieldLink RX9 182 "AnswerFold$Solver" "mustHave" "I", .fieldLink RX9 185 "AnswerFold$Solver" "mustLack" "I", .fieldLink RX9 188 "AnswerFold$Solver" "isHopeless" "Z", .methodLink RX9 191 yX1_contains, .instanceMethod yX1_contains, .selects RX1 yX1_contains yX1_contains, .initialized RX1, .methodLink RX9 72 yX9_bitOf, .instanceMethod yX9_bitOf, .selects RX9 yX9_bitOf yX9_bitOf, .initialized RX9, .fieldLink RX9 38 "AnswerFold$Solver" "grounding" "LAnswerFold$Grounding;"] ++ (u_ws RX9 TX9 17 ++ (vs_k_X1_contains ++ (vs_k_X9_bitOf ++ (u_ws RX3 TX3 16)))))
theorem iv_k_X9_fitAssumptions_X3 : ∀ w ∈ u_ws RX3 TX3 16, w ∈ vs_k_X9_fitAssumptions := (fun _ h => List.mem_cons_of_mem _ (List.mem_append_right _ (List.mem_append_right _ (List.mem_append_right _ (List.mem_append_right _ (h))))))
theorem iv_k_X9_fitAssumptions_X9 : ∀ w ∈ u_ws RX9 TX9 17, w ∈ vs_k_X9_fitAssumptions := (fun _ h => List.mem_cons_of_mem _ (List.mem_append_right _ (List.mem_append_left _ h)))
set_option maxRecDepth 20000 in
theorem gv_k_X9_fitAssumptions_0 : GoodIn vs_k_X9_fitAssumptions (wsV RX9 191 RX1 yX1_contains vs_k_X1_contains) := goodIn_app (goodIn_sub (by decide +kernel) (by decide +kernel)) (goodIn_sub (fun _ h => List.mem_cons_of_mem _ (List.mem_append_right _ (List.mem_append_right _ (List.mem_append_left _ h)))) (by decide +kernel))
set_option maxRecDepth 20000 in
theorem gv_k_X9_fitAssumptions_1 : GoodIn vs_k_X9_fitAssumptions (wsV RX9 191 RX1 yX1_contains vs_k_X1_contains) := goodIn_app (goodIn_sub (by decide +kernel) (by decide +kernel)) (goodIn_sub (fun _ h => List.mem_cons_of_mem _ (List.mem_append_right _ (List.mem_append_right _ (List.mem_append_left _ h)))) (by decide +kernel))
set_option maxRecDepth 20000 in
theorem gv_k_X9_fitAssumptions_2 : GoodIn vs_k_X9_fitAssumptions (wsV RX9 72 RX9 yX9_bitOf vs_k_X9_bitOf) := goodIn_app (goodIn_sub (by decide +kernel) (by decide +kernel)) (goodIn_sub (fun _ h => List.mem_cons_of_mem _ (List.mem_append_right _ (List.mem_append_right _ (List.mem_append_right _ (List.mem_append_left _ h))))) (by decide +kernel))
set_option maxRecDepth 20000 in
theorem gv_k_X9_fitAssumptions_3 : GoodIn vs_k_X9_fitAssumptions (wsV RX9 191 RX1 yX1_contains vs_k_X1_contains) := goodIn_app (goodIn_sub (by decide +kernel) (by decide +kernel)) (goodIn_sub (fun _ h => List.mem_cons_of_mem _ (List.mem_append_right _ (List.mem_append_right _ (List.mem_append_left _ h)))) (by decide +kernel))
set_option maxRecDepth 20000 in
theorem gv_k_X9_fitAssumptions_4 : GoodIn vs_k_X9_fitAssumptions (wsV RX9 72 RX9 yX9_bitOf vs_k_X9_bitOf) := goodIn_app (goodIn_sub (by decide +kernel) (by decide +kernel)) (goodIn_sub (fun _ h => List.mem_cons_of_mem _ (List.mem_append_right _ (List.mem_append_right _ (List.mem_append_right _ (List.mem_append_left _ h))))) (by decide +kernel))
set_option maxRecDepth 20000 in
theorem gv_k_X9_fitAssumptions_5 : GoodIn vs_k_X9_fitAssumptions (wsV RX9 191 RX1 yX1_contains vs_k_X1_contains) := goodIn_app (goodIn_sub (by decide +kernel) (by decide +kernel)) (goodIn_sub (fun _ h => List.mem_cons_of_mem _ (List.mem_append_right _ (List.mem_append_right _ (List.mem_append_left _ h)))) (by decide +kernel))
set_option maxHeartbeats 4000000 in
set_option maxRecDepth 100000 in
theorem k_X9_fitAssumptions (l : Launch) (D : va_G) (ty : Nat → ClassId) (td mi sz : Nat) (X : Nat → Nat) (hn : Int32) (kn : Int32) (on : Int32) (cu : Int32) (pu : Int32) (gw : Int32) (su : Nat → Int64) (po : Nat → Int64) (ob : Nat → Int32) (an : Int32) (ch : Int32) (cg : Int32) (fb : Int32) (mh : Int32) (ml : Int32) (ih : Int32) (lb : Int32) (ic : Int32) (ai : Nat → Int64) (ao : Nat → Int64) (TT : r_k_X9_fitAssumptions) (hTT : TT = m_k_X9_fitAssumptions on su po ob ai ao) : Met l yX9_fitAssumptions vs_k_X9_fitAssumptions { frames := 2, cells := 0, slots := 0, locals := 44 } (va_Pc [.ref (X 20), .ref (X 41), .ref (X 43)] (wq_P D ty td mi (wW_k_X9_fitAssumptions ty X hn kn on cu pu gw su po ob an ch cg fb mh ml ih lb ic ai ao) sz)) (va_Qv (fun u : va_W => ((u = (wW_k_X9_fitAssumptions ty X hn kn on cu pu gw su po ob an ch cg fb TT.1 TT.2.1 TT.2.2 lb ic ai ao)))) (wq_B D (va_A (wW_k_X9_fitAssumptions ty X hn kn on cu pu gw su po ob an ch cg fb mh ml ih lb ic ai ao) sz)) (va_A (wW_k_X9_fitAssumptions ty X hn kn on cu pu gw su po ob an ch cg fb mh ml ih lb ic ai ao) sz)) 0 0 (va_A (wW_k_X9_fitAssumptions ty X hn kn on cu pu gw su po ob an ch cg fb mh ml ih lb ic ai ao) sz) := by
  refine Met.ofW (cc := cX9_fitAssumptions) (maxL := 4) (ret := none) (by decide) rfl ?_
  intro p e s m args below meth c s₁ B hml hv
  obtain ⟨rfl, hsz, hP, hK, hD0, hE⟩ := hv
  have hx := B.exec
  have hb := B.bytes
  have hr := B.returns
  have hts := atoms_spec (ws := vs_k_X9_fitAssumptions) B.pre
  have hown : s.vm.findClass RX9 = some m.cls := findClass_of_methodNamed B.named
  have hlocks := B.notSynchronized
  subst hsz
  have hD := hD0.self (sz := s.heap.size)
  generalize hAe : va_A (wW_k_X9_fitAssumptions ty X hn kn on cu pu gw su po ob an ch cg fb mh ml ih lb ic ai ao) s.heap.size = A at hD hE ⊢
  have hA : ∀ q : Nat, s.heap.size ≤ q → A q := fun q h => by rw [← hAe]; exact Or.inr h
  have hS : va_S A s.heap s.heap [] := va_S.rf
  have hP : va_P D vwCl (wW_k_X9_fitAssumptions ty X hn kn on cu pu gw su po ob an ch cg fb mh ml ih lb ic ai ao) s.heap := hP
  have hl := lv_entry ([.ref (X 20), .ref (X 41), .ref (X 43)]) (n := 4) (Nat.le_of_ble_eq_true rfl)
  rw [lg_entry_eq]
  generalize (lg_sl ([.ref (X 20), .ref (X 41), .ref (X 43)]) ++ List.replicate (4 - (lg_sl ([.ref (X 20), .ref (X 41), .ref (X 43)])).length) Slot.unset).toArray = ls at hl ⊢
  have hl : lv_has ls 4 [(0, .ref (X 20)), (1, .ref (X 41)), (2, .ref (X 43))] := hl
  have END : ∀ (e0 : Int32) (e1 : Int32) (e2 : Int32), TT = (e0, e1, e2) → ∀ (H : Heap) (locs : List Loc), va_P D vwCl (wW_k_X9_fitAssumptions ty X hn kn on cu pu gw su po ob an ch cg fb e0 e1 e2 lb ic ai ao) H → va_D A (wW_k_X9_fitAssumptions ty X hn kn on cu pu gw su po ob an ch cg fb e0 e1 e2 lb ic ai ao) → va_S A s.heap H locs → ∀ (ls : Array Slot) (pc : Nat), decode cX9_fitAssumptions pc = .ok (.return_, 1) → W p l e (headSpec vs_k_X9_fitAssumptions { frames := 2, cells := 0, slots := 0, locals := 44 }).room s m ([.ref (X 20), .ref (X 41), .ref (X 43)] : List Value).toArray below meth c H locs 0 0 (MQ below (va_Qv (fun u : va_W => ((u = (wW_k_X9_fitAssumptions ty X hn kn on cu pu gw su po ob an ch cg fb TT.1 TT.2.1 TT.2.2 lb ic ai ao)))) (wq_B D A) A) ([.ref (X 20), .ref (X 41), .ref (X 43)] : List Value).toArray s 0 0 A) (F0 m pc ls []) := by
    intro e0 e1 e2 hT H locs hP hD hS ls pc hd
    have hM : TT = (e0, e1, e2) := hT
    exact W.vret hx hb hr (fun t ht hW => ⟨⟨(wW_k_X9_fitAssumptions ty X hn kn on cu pu gw su po ob an ch cg fb e0 e1 e2 lb ic ai ao), rfl, (by rw [hM]), wq_B.of ht hP hD⟩, hS.F ht⟩) hS.2.2 hd
  have hT := hTT
  rw [m_k_X9_fitAssumptions] at hT
  refine lv_aload_n hx hb dX9_fitAssumptions_0 rfl (lv_at hl 0 rfl) ?_
  refine lv_iconst (v := 0) hx hb dX9_fitAssumptions_1 (by decide) ?_
  refine va_put (D := D) (ci := 11) (v := .int 0) (ty := tyX9 12) (C := RX9) (T := TX9) (N := 17) hx hb hts iv_k_X9_fitAssumptions_X9 tyX9 tyX9_ok nmX9 hown hK hP hD hS 6 rfl rfl 12 (by decide) (hts (.fieldLink RX9 182 "AnswerFold$Solver" "mustHave" "I") (by decide +kernel)) (fun _ h9 => h9) rfl (by decide +kernel) rfl rfl (Nat.le_of_ble_eq_true rfl) dX9_fitAssumptions_2 (fun H locs hP hD hS => ?_)
  have hP : va_P D vwCl (wW_k_X9_fitAssumptions ty X hn kn on cu pu gw su po ob an ch cg fb (0) ml ih lb ic ai ao) H := hP
  have hD : va_D A (wW_k_X9_fitAssumptions ty X hn kn on cu pu gw su po ob an ch cg fb (0) ml ih lb ic ai ao) := hD
  refine lv_aload_n hx hb dX9_fitAssumptions_5 rfl (lv_at hl 0 rfl) ?_
  refine lv_iconst (v := 0) hx hb dX9_fitAssumptions_6 (by decide) ?_
  refine va_put (D := D) (ci := 11) (v := .int 0) (ty := tyX9 13) (C := RX9) (T := TX9) (N := 17) hx hb hts iv_k_X9_fitAssumptions_X9 tyX9 tyX9_ok nmX9 hown hK hP hD hS 6 rfl rfl 13 (by decide) (hts (.fieldLink RX9 185 "AnswerFold$Solver" "mustLack" "I") (by decide +kernel)) (fun _ h9 => h9) rfl (by decide +kernel) rfl rfl (Nat.le_of_ble_eq_true rfl) dX9_fitAssumptions_7 (fun H locs hP hD hS => ?_)
  have hP : va_P D vwCl (wW_k_X9_fitAssumptions ty X hn kn on cu pu gw su po ob an ch cg fb (0) (0) ih lb ic ai ao) H := hP
  have hD : va_D A (wW_k_X9_fitAssumptions ty X hn kn on cu pu gw su po ob an ch cg fb (0) (0) ih lb ic ai ao) := hD
  refine lv_aload_n hx hb dX9_fitAssumptions_10 rfl (lv_at hl 0 rfl) ?_
  refine lv_iconst (v := 0) hx hb dX9_fitAssumptions_11 (by decide) ?_
  refine va_put (D := D) (ci := 11) (v := .int 0) (ty := tyX9 14) (C := RX9) (T := TX9) (N := 17) hx hb hts iv_k_X9_fitAssumptions_X9 tyX9 tyX9_ok nmX9 hown hK hP hD hS 6 rfl rfl 14 (by decide) (hts (.fieldLink RX9 188 "AnswerFold$Solver" "isHopeless" "Z") (by decide +kernel)) (fun _ h9 => h9) rfl (by decide +kernel) rfl rfl (Nat.le_of_ble_eq_true rfl) dX9_fitAssumptions_12 (fun H locs hP hD hS => ?_)
  have hP : va_P D vwCl (wW_k_X9_fitAssumptions ty X hn kn on cu pu gw su po ob an ch cg fb (0) (0) (0) lb ic ai ao) H := hP
  have hD : va_D A (wW_k_X9_fitAssumptions ty X hn kn on cu pu gw su po ob an ch cg fb (0) (0) (0) lb ic ai ao) := hD
  refine lv_iconst (v := 0) hx hb dX9_fitAssumptions_15 (by decide) ?_
  refine lv_istore_n (lv' := [(3, .int 0), (0, .ref (X 20)), (1, .ref (X 41)), (2, .ref (X 43))]) hx hb dX9_fitAssumptions_16 rfl hl (by decide) rfl (fun ls hl => ?_)
  have L_17 : ∀ (n_17 : Nat) (v3_17 : Int32) (x20_12_17 : Int32) (x20_13_17 : Int32) (x20_14_17 : Int32), (2147483648 - v3_17.toInt).toNat < n_17 → TT = m_k_X9_fitAssumptions_17 on su po ob ai ao n_17 v3_17 x20_12_17 x20_13_17 x20_14_17 → 0 ≤ v3_17.toInt → x20_14_17 = 0 ∨ x20_14_17 = 1 → ∀ (H : Heap) (locs : List Loc), va_P D vwCl (wW_k_X9_fitAssumptions ty X hn kn on cu pu gw su po ob an ch cg fb x20_12_17 x20_13_17 x20_14_17 lb ic ai ao) H → va_D A (wW_k_X9_fitAssumptions ty X hn kn on cu pu gw su po ob an ch cg fb x20_12_17 x20_13_17 x20_14_17 lb ic ai ao) → va_S A s.heap H locs → ∀ ls : Array Slot, lv_has ls 4 [(0, .ref (X 20)), (1, .ref (X 41)), (2, .ref (X 43)), (3, .int v3_17)] → W p l e (headSpec vs_k_X9_fitAssumptions { frames := 2, cells := 0, slots := 0, locals := 44 }).room s m ([.ref (X 20), .ref (X 41), .ref (X 43)] : List Value).toArray below meth c H locs 0 0 (MQ below (va_Qv (fun u : va_W => ((u = (wW_k_X9_fitAssumptions ty X hn kn on cu pu gw su po ob an ch cg fb TT.1 TT.2.1 TT.2.2 lb ic ai ao)))) (wq_B D A) A) ([.ref (X 20), .ref (X 41), .ref (X 43)] : List Value).toArray s 0 0 A) (F0 m 17 ls []) := by
    intro n_17
    induction n_17 with
    | zero => intro v3_17 x20_12_17 x20_13_17 x20_14_17 hu; exact absurd hu (Nat.not_lt_zero _)
    | succ n_17 ih_17 =>
      intro v3_17 x20_12_17 x20_13_17 x20_14_17 hu_17 hT hn_17 hb_x20_14_17 H locs hP hD hS ls hl
      rw [m_k_X9_fitAssumptions_17_succ, m_k_X9_fitAssumptions_17s] at hT
      refine lv_iload_n hx hb dX9_fitAssumptions_17 rfl (lv_at hl 3 rfl) ?_
      refine lv_sipush (v := 384) hx hb dX9_fitAssumptions_18 (by decide) ?_
      refine lv_icmp_ge (tgt := 134) hx hb dX9_fitAssumptions_21 (by decide) (fun c_1 => ?_) (fun c_1 => ?_)
      · rw [if_pos c_1] at hT
        exact END x20_12_17 x20_13_17 x20_14_17 hT _ _ hP hD hS _ _ dX9_fitAssumptions_134
      · rw [if_neg c_1] at hT
        refine lv_aload_n hx hb dX9_fitAssumptions_24 rfl (lv_at hl 1 rfl) ?_
        refine lv_iload_n hx hb dX9_fitAssumptions_25 rfl (lv_at hl 3 rfl) ?_
        obtain ⟨t_26, ht_26⟩ : ∃ t, t = m_k_X1_contains ai v3_17 := ⟨_, rfl⟩
        rw [lE_eq ht_26] at hT
        refine wq_iW (wc := (wW_k_X1_contains ty (X 41) (X 42) ai)) (va_runV (As := [.int v3_17]) (rest := []) ⟨hx, hb, hml, hown, hts⟩ (k_X1_contains l D ty td mi H.size (X 41) (X 42) ai v3_17 t_26 ht_26) (cwV 1 hts gv_k_X9_fitAssumptions_0 rfl rfl rfl (by decide +kernel) ⟨(Nat.le_of_ble_eq_true rfl), (Nat.le_of_ble_eq_true rfl)⟩) ⟨(wq_preS hP hD hK hE hS hA [7, 8] rfl (by decide) (As := .ref (X 41) :: [.int v3_17])).1, va_recv (q0 := 7) (ci := 3) hK hP rfl rfl, (wq_preS hP hD hK hE hS hA [7, 8] rfl (by decide) (As := .ref (X 41) :: [.int v3_17])).2⟩ rfl rfl hl.1 rfl (lv_room (Nat.le_of_ble_eq_true rfl)) dX9_fitAssumptions_26 ⟨(Nat.le_of_ble_eq_true rfl), (Nat.le_of_ble_eq_true rfl)⟩) hS hA hP hD [7, 8] rfl (by decide) (fun _ _ h => by rcases h with ⟨-, -, rfl⟩; rfl) (fun r u H locs hw hP hD hS => ?_)
        obtain ⟨hr0, c_4, rfl⟩ := hw
        subst r
        have hP : va_P D vwCl (wW_k_X9_fitAssumptions ty X hn kn on cu pu gw su po ob an ch cg fb x20_12_17 x20_13_17 x20_14_17 lb ic ai ao) H := hP
        have hD : va_D A (wW_k_X9_fitAssumptions ty X hn kn on cu pu gw su po ob an ch cg fb x20_12_17 x20_13_17 x20_14_17 lb ic ai ao) := hD
        refine W.widen (k := 0) (n := 0) (Nat.le_of_ble_eq_true rfl) (Nat.le_of_ble_eq_true rfl) ?_
        have J_76 : ∀ (x20_12_76 : Int32) (x20_14_76 : Int32), TT = m_k_X9_fitAssumptions_76 on su ob ao (m_k_X9_fitAssumptions_17 on su po ob ai ao n_17) v3_17 x20_13_17 x20_12_76 x20_14_76 → x20_14_76 = 0 ∨ x20_14_76 = 1 → ∀ (H : Heap) (locs : List Loc), va_P D vwCl (wW_k_X9_fitAssumptions ty X hn kn on cu pu gw su po ob an ch cg fb x20_12_76 x20_13_17 x20_14_76 lb ic ai ao) H → va_D A (wW_k_X9_fitAssumptions ty X hn kn on cu pu gw su po ob an ch cg fb x20_12_76 x20_13_17 x20_14_76 lb ic ai ao) → va_S A s.heap H locs → ∀ ls : Array Slot, lv_has ls 4 [(0, .ref (X 20)), (1, .ref (X 41)), (2, .ref (X 43)), (3, .int v3_17)] → W p l e (headSpec vs_k_X9_fitAssumptions { frames := 2, cells := 0, slots := 0, locals := 44 }).room s m ([.ref (X 20), .ref (X 41), .ref (X 43)] : List Value).toArray below meth c H locs 0 0 (MQ below (va_Qv (fun u : va_W => ((u = (wW_k_X9_fitAssumptions ty X hn kn on cu pu gw su po ob an ch cg fb TT.1 TT.2.1 TT.2.2 lb ic ai ao)))) (wq_B D A) A) ([.ref (X 20), .ref (X 41), .ref (X 43)] : List Value).toArray s 0 0 A) (F0 m 76 ls []) := by
          intro x20_12_76 x20_14_76 hT hb_x20_14_76 H locs hP hD hS ls hl
          rw [m_k_X9_fitAssumptions_76] at hT
          refine lv_aload_n hx hb dX9_fitAssumptions_76 rfl (lv_at hl 2 rfl) ?_
          refine lv_iload_n hx hb dX9_fitAssumptions_77 rfl (lv_at hl 3 rfl) ?_
          obtain ⟨t_78, ht_78⟩ : ∃ t, t = m_k_X1_contains ao v3_17 := ⟨_, rfl⟩
          rw [lE_eq ht_78] at hT
          refine wq_iW (wc := (wW_k_X1_contains ty (X 43) (X 44) ao)) (va_runV (As := [.int v3_17]) (rest := []) ⟨hx, hb, hml, hown, hts⟩ (k_X1_contains l D ty td mi H.size (X 43) (X 44) ao v3_17 t_78 ht_78) (cwV 1 hts gv_k_X9_fitAssumptions_1 rfl rfl rfl (by decide +kernel) ⟨(Nat.le_of_ble_eq_true rfl), (Nat.le_of_ble_eq_true rfl)⟩) ⟨(wq_preS hP hD hK hE hS hA [9, 10] rfl (by decide) (As := .ref (X 43) :: [.int v3_17])).1, va_recv (q0 := 9) (ci := 3) hK hP rfl rfl, (wq_preS hP hD hK hE hS hA [9, 10] rfl (by decide) (As := .ref (X 43) :: [.int v3_17])).2⟩ rfl rfl hl.1 rfl (lv_room (Nat.le_of_ble_eq_true rfl)) dX9_fitAssumptions_78 ⟨(Nat.le_of_ble_eq_true rfl), (Nat.le_of_ble_eq_true rfl)⟩) hS hA hP hD [9, 10] rfl (by decide) (fun _ _ h => by rcases h with ⟨-, -, rfl⟩; rfl) (fun r u H locs hw hP hD hS => ?_)
          obtain ⟨hr0, c_7, rfl⟩ := hw
          subst r
          have hP : va_P D vwCl (wW_k_X9_fitAssumptions ty X hn kn on cu pu gw su po ob an ch cg fb x20_12_76 x20_13_17 x20_14_76 lb ic ai ao) H := hP
          have hD : va_D A (wW_k_X9_fitAssumptions ty X hn kn on cu pu gw su po ob an ch cg fb x20_12_76 x20_13_17 x20_14_76 lb ic ai ao) := hD
          refine W.widen (k := 0) (n := 0) (Nat.le_of_ble_eq_true rfl) (Nat.le_of_ble_eq_true rfl) ?_
          have J_128 : ∀ (x20_13_128 : Int32) (x20_14_128 : Int32), TT = m_k_X9_fitAssumptions_128 (m_k_X9_fitAssumptions_17 on su po ob ai ao n_17) v3_17 x20_12_76 x20_13_128 x20_14_128 → x20_14_128 = 0 ∨ x20_14_128 = 1 → ∀ (H : Heap) (locs : List Loc), va_P D vwCl (wW_k_X9_fitAssumptions ty X hn kn on cu pu gw su po ob an ch cg fb x20_12_76 x20_13_128 x20_14_128 lb ic ai ao) H → va_D A (wW_k_X9_fitAssumptions ty X hn kn on cu pu gw su po ob an ch cg fb x20_12_76 x20_13_128 x20_14_128 lb ic ai ao) → va_S A s.heap H locs → ∀ ls : Array Slot, lv_has ls 4 [(0, .ref (X 20)), (1, .ref (X 41)), (2, .ref (X 43)), (3, .int v3_17)] → W p l e (headSpec vs_k_X9_fitAssumptions { frames := 2, cells := 0, slots := 0, locals := 44 }).room s m ([.ref (X 20), .ref (X 41), .ref (X 43)] : List Value).toArray below meth c H locs 0 0 (MQ below (va_Qv (fun u : va_W => ((u = (wW_k_X9_fitAssumptions ty X hn kn on cu pu gw su po ob an ch cg fb TT.1 TT.2.1 TT.2.2 lb ic ai ao)))) (wq_B D A) A) ([.ref (X 20), .ref (X 41), .ref (X 43)] : List Value).toArray s 0 0 A) (F0 m 128 ls []) := by
            intro x20_13_128 x20_14_128 hT hb_x20_14_128 H locs hP hD hS ls hl
            rw [m_k_X9_fitAssumptions_128] at hT
            refine lv_iinc (v := v3_17 + 1) (lv' := [(3, .int (v3_17 + 1)), (0, .ref (X 20)), (1, .ref (X 41)), (2, .ref (X 43))]) hx hb dX9_fitAssumptions_128 hl (k := 3) rfl (by rfl) (by decide) rfl (fun ls hl => ?_)
            refine lv_goto (tgt := 17) hx hb dX9_fitAssumptions_131 (by decide) ?_
            exact ih_17 (v3_17 + 1) x20_12_76 x20_13_128 x20_14_128 (wi_up hu_17 (Int32.not_le.mp c_1)) hT (wi_inc hn_17 (Int32.not_le.mp c_1)) hb_x20_14_128 _ _ hP hD hS _ (lv_sub hl [1, 2, 3, 0] rfl)
          refine lv_if_eq (tgt := 128) hx hb dX9_fitAssumptions_81 (by decide) (fun c_8 => ?_) (fun c_8 => ?_)
          · rw [if_pos c_8] at hT
            exact J_128 x20_13_17 x20_14_76 hT hb_x20_14_76 _ _ hP hD hS _ (lv_sub hl [0, 1, 2, 3] rfl)
          · rw [if_neg c_8] at hT
            refine lv_aload_n hx hb dX9_fitAssumptions_84 rfl (lv_at hl 0 rfl) ?_
            refine lv_dup hx hb dX9_fitAssumptions_85 rfl ?_
            refine va_get (D := D) (ci := 11) (v := .int x20_13_17) (C := RX9) (T := TX9) (N := 17) hx hb hts iv_k_X9_fitAssumptions_X9 hown hK hP 6 rfl rfl 13 (by decide) (hts (.fieldLink RX9 185 "AnswerFold$Solver" "mustLack" "I") (by decide +kernel)) (fun _ h9 => h9) rfl dX9_fitAssumptions_86 ?_
            refine lv_aload_n hx hb dX9_fitAssumptions_89 rfl (lv_at hl 0 rfl) ?_
            refine lv_iload_n hx hb dX9_fitAssumptions_90 rfl (lv_at hl 3 rfl) ?_
            obtain ⟨t_91, ht_91⟩ : ∃ t, t = m_k_X9_bitOf on ob v3_17 := ⟨_, rfl⟩
            rw [lE_eq ht_91] at hT
            refine wq_iW (wc := (wW_k_X9_bitOf ty X hn kn on cu pu gw ob an ch cg fb x20_12_76 x20_13_17 x20_14_76 lb ic)) (va_runV (As := [.int v3_17]) (rest := [.int x20_13_17, .ref (X 20)]) ⟨hx, hb, hml, hown, hts⟩ (k_X9_bitOf l D ty td mi H.size X hn kn on cu pu gw ob an ch cg fb x20_12_76 x20_13_17 x20_14_76 lb ic v3_17 t_91 ht_91) (cwV 1 hts gv_k_X9_fitAssumptions_2 rfl rfl rfl (by decide +kernel) ⟨(Nat.le_of_ble_eq_true rfl), (Nat.le_of_ble_eq_true rfl)⟩) ⟨(wq_preS hP hD hK hE hS hA [0, 5, 6] rfl (by decide) (As := .ref (X 20) :: [.int v3_17])).1, va_recv (q0 := 6) (ci := 11) hK hP rfl rfl, (wq_preS hP hD hK hE hS hA [0, 5, 6] rfl (by decide) (As := .ref (X 20) :: [.int v3_17])).2⟩ rfl rfl hl.1 rfl (lv_room (Nat.le_of_ble_eq_true rfl)) dX9_fitAssumptions_91 ⟨(Nat.le_of_ble_eq_true rfl), (Nat.le_of_ble_eq_true rfl)⟩) hS hA hP hD [0, 5, 6] rfl (by decide) (fun _ _ h => by rcases h with ⟨-, rfl⟩; rfl) (fun r u H locs hw hP hD hS => ?_)
            obtain ⟨hr0, rfl⟩ := hw
            subst r
            have hP : va_P D vwCl (wW_k_X9_fitAssumptions ty X hn kn on cu pu gw su po ob an ch cg fb x20_12_76 x20_13_17 x20_14_76 lb ic ai ao) H := hP
            have hD : va_D A (wW_k_X9_fitAssumptions ty X hn kn on cu pu gw su po ob an ch cg fb x20_12_76 x20_13_17 x20_14_76 lb ic ai ao) := hD
            refine W.widen (k := 0) (n := 0) (Nat.le_of_ble_eq_true rfl) (Nat.le_of_ble_eq_true rfl) ?_
            refine lv_ior hx hb dX9_fitAssumptions_94 ?_
            refine va_put (D := D) (ci := 11) (v := .int (x20_13_17 ||| t_91)) (ty := tyX9 13) (C := RX9) (T := TX9) (N := 17) hx hb hts iv_k_X9_fitAssumptions_X9 tyX9 tyX9_ok nmX9 hown hK hP hD hS 6 rfl rfl 13 (by decide) (hts (.fieldLink RX9 185 "AnswerFold$Solver" "mustLack" "I") (by decide +kernel)) (fun _ h9 => h9) rfl (by decide +kernel) rfl rfl (Nat.le_of_ble_eq_true rfl) dX9_fitAssumptions_95 (fun H locs hP hD hS => ?_)
            have hP : va_P D vwCl (wW_k_X9_fitAssumptions ty X hn kn on cu pu gw su po ob an ch cg fb x20_12_76 (x20_13_17 ||| t_91) x20_14_76 lb ic ai ao) H := hP
            have hD : va_D A (wW_k_X9_fitAssumptions ty X hn kn on cu pu gw su po ob an ch cg fb x20_12_76 (x20_13_17 ||| t_91) x20_14_76 lb ic ai ao) := hD
            refine lv_aload_n hx hb dX9_fitAssumptions_98 rfl (lv_at hl 0 rfl) ?_
            refine lv_aload_n hx hb dX9_fitAssumptions_99 rfl (lv_at hl 0 rfl) ?_
            refine va_get (D := D) (ci := 11) (v := .int x20_14_76) (C := RX9) (T := TX9) (N := 17) hx hb hts iv_k_X9_fitAssumptions_X9 hown hK hP 6 rfl rfl 14 (by decide) (hts (.fieldLink RX9 188 "AnswerFold$Solver" "isHopeless" "Z") (by decide +kernel)) (fun _ h9 => h9) rfl dX9_fitAssumptions_100 ?_
            have J_125 : ∀ (s0_125 : Int32), TT = m_k_X9_fitAssumptions_125 (m_k_X9_fitAssumptions_17 on su po ob ai ao n_17) t_91 v3_17 x20_12_76 x20_13_17 s0_125 → s0_125 = 0 ∨ s0_125 = 1 → ∀ (H : Heap) (locs : List Loc), va_P D vwCl (wW_k_X9_fitAssumptions ty X hn kn on cu pu gw su po ob an ch cg fb x20_12_76 (x20_13_17 ||| t_91) x20_14_76 lb ic ai ao) H → va_D A (wW_k_X9_fitAssumptions ty X hn kn on cu pu gw su po ob an ch cg fb x20_12_76 (x20_13_17 ||| t_91) x20_14_76 lb ic ai ao) → va_S A s.heap H locs → ∀ ls : Array Slot, lv_has ls 4 [(0, .ref (X 20)), (1, .ref (X 41)), (2, .ref (X 43)), (3, .int v3_17)] → W p l e (headSpec vs_k_X9_fitAssumptions { frames := 2, cells := 0, slots := 0, locals := 44 }).room s m ([.ref (X 20), .ref (X 41), .ref (X 43)] : List Value).toArray below meth c H locs 0 0 (MQ below (va_Qv (fun u : va_W => ((u = (wW_k_X9_fitAssumptions ty X hn kn on cu pu gw su po ob an ch cg fb TT.1 TT.2.1 TT.2.2 lb ic ai ao)))) (wq_B D A) A) ([.ref (X 20), .ref (X 41), .ref (X 43)] : List Value).toArray s 0 0 A) (F0 m 125 ls [.int s0_125, .ref (X 20)]) := by
              intro s0_125 hT hb_s0_125 H locs hP hD hS ls hl
              rw [m_k_X9_fitAssumptions_125] at hT
              refine va_put (D := D) (ci := 11) (v := .int s0_125) (ty := tyX9 14) (C := RX9) (T := TX9) (N := 17) hx hb hts iv_k_X9_fitAssumptions_X9 tyX9 tyX9_ok nmX9 hown hK hP hD hS 6 rfl rfl 14 (by decide) (hts (.fieldLink RX9 188 "AnswerFold$Solver" "isHopeless" "Z") (by decide +kernel)) (fun _ h9 => h9) rfl (by decide +kernel) (wz_nar hb_s0_125) (wz_fit hb_s0_125) (Nat.le_of_ble_eq_true rfl) dX9_fitAssumptions_125 (fun H locs hP hD hS => ?_)
              have hP : va_P D vwCl (wW_k_X9_fitAssumptions ty X hn kn on cu pu gw su po ob an ch cg fb x20_12_76 (x20_13_17 ||| t_91) s0_125 lb ic ai ao) H := hP
              have hD : va_D A (wW_k_X9_fitAssumptions ty X hn kn on cu pu gw su po ob an ch cg fb x20_12_76 (x20_13_17 ||| t_91) s0_125 lb ic ai ao) := hD
              exact J_128 (x20_13_17 ||| t_91) s0_125 hT hb_s0_125 _ _ hP hD hS _ (lv_sub hl [0, 1, 2, 3] rfl)
            have J_120 : ∀ (_ : Unit), TT = m_k_X9_fitAssumptions_120 (m_k_X9_fitAssumptions_17 on su po ob ai ao n_17) t_91 v3_17 x20_12_76 x20_13_17 → ∀ (H : Heap) (locs : List Loc), va_P D vwCl (wW_k_X9_fitAssumptions ty X hn kn on cu pu gw su po ob an ch cg fb x20_12_76 (x20_13_17 ||| t_91) x20_14_76 lb ic ai ao) H → va_D A (wW_k_X9_fitAssumptions ty X hn kn on cu pu gw su po ob an ch cg fb x20_12_76 (x20_13_17 ||| t_91) x20_14_76 lb ic ai ao) → va_S A s.heap H locs → ∀ ls : Array Slot, lv_has ls 4 [(0, .ref (X 20)), (1, .ref (X 41)), (2, .ref (X 43)), (3, .int v3_17)] → W p l e (headSpec vs_k_X9_fitAssumptions { frames := 2, cells := 0, slots := 0, locals := 44 }).room s m ([.ref (X 20), .ref (X 41), .ref (X 43)] : List Value).toArray below meth c H locs 0 0 (MQ below (va_Qv (fun u : va_W => ((u = (wW_k_X9_fitAssumptions ty X hn kn on cu pu gw su po ob an ch cg fb TT.1 TT.2.1 TT.2.2 lb ic ai ao)))) (wq_B D A) A) ([.ref (X 20), .ref (X 41), .ref (X 43)] : List Value).toArray s 0 0 A) (F0 m 120 ls [.ref (X 20)]) := by
              intro _ hT  H locs hP hD hS ls hl
              rw [m_k_X9_fitAssumptions_120] at hT
              refine lv_iconst (v := 1) hx hb dX9_fitAssumptions_120 (by decide) ?_
              refine lv_goto (tgt := 125) hx hb dX9_fitAssumptions_121 (by decide) ?_
              exact J_125 1 hT (by decide) _ _ hP hD hS _ (lv_sub hl [0, 1, 2, 3] rfl)
            refine lv_if_ne (tgt := 120) hx hb dX9_fitAssumptions_103 (by decide) (fun c_11 => ?_) (fun c_11 => ?_)
            · rw [if_neg c_11] at hT
              exact J_120 () hT _ _ hP hD hS _ (lv_sub hl [0, 1, 2, 3] rfl)
            · rw [if_pos c_11] at hT
              refine lv_aload_n hx hb dX9_fitAssumptions_106 rfl (lv_at hl 0 rfl) ?_
              refine va_get (D := D) (ci := 11) (v := .ref (X 8)) (C := RX9) (T := TX9) (N := 17) hx hb hts iv_k_X9_fitAssumptions_X9 hown hK hP 6 rfl rfl 1 (by decide) (hts (.fieldLink RX9 38 "AnswerFold$Solver" "grounding" "LAnswerFold$Grounding;") (by decide +kernel)) (fun _ h9 => h9) rfl dX9_fitAssumptions_107 ?_
              refine va_getN (D := D) (ci := 5) (v := .ref (X 10)) (C := RX3) (T := TX3) (N := 16) hx hb hts iv_k_X9_fitAssumptions_X3 hown hK hP 0 rfl rfl 2 (by decide) (hE.at (.fieldLinkNest "AnswerFold$Solver" 53 "AnswerFold$Grounding" "sure" "LAnswerFold$AtomSet;" "AnswerFold") (by decide +kernel)) (fun _ h9 => h9) rfl dX9_fitAssumptions_110 ?_
              refine lv_iload_n hx hb dX9_fitAssumptions_113 rfl (lv_at hl 3 rfl) ?_
              obtain ⟨t_114, ht_114⟩ : ∃ t, t = m_k_X1_contains su v3_17 := ⟨_, rfl⟩
              rw [lE_eq ht_114] at hT
              refine wq_iW (wc := (wW_k_X1_contains ty (X 10) (X 11) su)) (va_runV (As := [.int v3_17]) (rest := [.ref (X 20)]) ⟨hx, hb, hml, hown, hts⟩ (k_X1_contains l D ty td mi H.size (X 10) (X 11) su v3_17 t_114 ht_114) (cwV 1 hts gv_k_X9_fitAssumptions_3 rfl rfl rfl (by decide +kernel) ⟨(Nat.le_of_ble_eq_true rfl), (Nat.le_of_ble_eq_true rfl)⟩) ⟨(wq_preS hP hD hK hE hS hA [1, 2] rfl (by decide) (As := .ref (X 10) :: [.int v3_17])).1, va_recv (q0 := 1) (ci := 3) hK hP rfl rfl, (wq_preS hP hD hK hE hS hA [1, 2] rfl (by decide) (As := .ref (X 10) :: [.int v3_17])).2⟩ rfl rfl hl.1 rfl (lv_room (Nat.le_of_ble_eq_true rfl)) dX9_fitAssumptions_114 ⟨(Nat.le_of_ble_eq_true rfl), (Nat.le_of_ble_eq_true rfl)⟩) hS hA hP hD [1, 2] rfl (by decide) (fun _ _ h => by rcases h with ⟨-, -, rfl⟩; rfl) (fun r u H locs hw hP hD hS => ?_)
              obtain ⟨hr0, c_14, rfl⟩ := hw
              subst r
              have hP : va_P D vwCl (wW_k_X9_fitAssumptions ty X hn kn on cu pu gw su po ob an ch cg fb x20_12_76 (x20_13_17 ||| t_91) x20_14_76 lb ic ai ao) H := hP
              have hD : va_D A (wW_k_X9_fitAssumptions ty X hn kn on cu pu gw su po ob an ch cg fb x20_12_76 (x20_13_17 ||| t_91) x20_14_76 lb ic ai ao) := hD
              refine W.widen (k := 0) (n := 0) (Nat.le_of_ble_eq_true rfl) (Nat.le_of_ble_eq_true rfl) ?_
              refine lv_if_eq (tgt := 124) hx hb dX9_fitAssumptions_117 (by decide) (fun c_15 => ?_) (fun c_15 => ?_)
              · rw [if_pos c_15] at hT
                refine lv_iconst (v := 0) hx hb dX9_fitAssumptions_124 (by decide) ?_
                exact J_125 0 hT (by decide) _ _ hP hD hS _ (lv_sub hl [0, 1, 2, 3] rfl)
              · rw [if_neg c_15] at hT
                exact J_120 () hT _ _ hP hD hS _ (lv_sub hl [0, 1, 2, 3] rfl)
        refine lv_if_eq (tgt := 76) hx hb dX9_fitAssumptions_29 (by decide) (fun c_16 => ?_) (fun c_16 => ?_)
        · rw [if_pos c_16] at hT
          exact J_76 x20_12_17 x20_14_17 hT hb_x20_14_17 _ _ hP hD hS _ (lv_sub hl [0, 1, 2, 3] rfl)
        · rw [if_neg c_16] at hT
          refine lv_aload_n hx hb dX9_fitAssumptions_32 rfl (lv_at hl 0 rfl) ?_
          refine lv_dup hx hb dX9_fitAssumptions_33 rfl ?_
          refine va_get (D := D) (ci := 11) (v := .int x20_12_17) (C := RX9) (T := TX9) (N := 17) hx hb hts iv_k_X9_fitAssumptions_X9 hown hK hP 6 rfl rfl 12 (by decide) (hts (.fieldLink RX9 182 "AnswerFold$Solver" "mustHave" "I") (by decide +kernel)) (fun _ h9 => h9) rfl dX9_fitAssumptions_34 ?_
          refine lv_aload_n hx hb dX9_fitAssumptions_37 rfl (lv_at hl 0 rfl) ?_
          refine lv_iload_n hx hb dX9_fitAssumptions_38 rfl (lv_at hl 3 rfl) ?_
          obtain ⟨t_39, ht_39⟩ : ∃ t, t = m_k_X9_bitOf on ob v3_17 := ⟨_, rfl⟩
          rw [lE_eq ht_39] at hT
          refine wq_iW (wc := (wW_k_X9_bitOf ty X hn kn on cu pu gw ob an ch cg fb x20_12_17 x20_13_17 x20_14_17 lb ic)) (va_runV (As := [.int v3_17]) (rest := [.int x20_12_17, .ref (X 20)]) ⟨hx, hb, hml, hown, hts⟩ (k_X9_bitOf l D ty td mi H.size X hn kn on cu pu gw ob an ch cg fb x20_12_17 x20_13_17 x20_14_17 lb ic v3_17 t_39 ht_39) (cwV 1 hts gv_k_X9_fitAssumptions_4 rfl rfl rfl (by decide +kernel) ⟨(Nat.le_of_ble_eq_true rfl), (Nat.le_of_ble_eq_true rfl)⟩) ⟨(wq_preS hP hD hK hE hS hA [0, 5, 6] rfl (by decide) (As := .ref (X 20) :: [.int v3_17])).1, va_recv (q0 := 6) (ci := 11) hK hP rfl rfl, (wq_preS hP hD hK hE hS hA [0, 5, 6] rfl (by decide) (As := .ref (X 20) :: [.int v3_17])).2⟩ rfl rfl hl.1 rfl (lv_room (Nat.le_of_ble_eq_true rfl)) dX9_fitAssumptions_39 ⟨(Nat.le_of_ble_eq_true rfl), (Nat.le_of_ble_eq_true rfl)⟩) hS hA hP hD [0, 5, 6] rfl (by decide) (fun _ _ h => by rcases h with ⟨-, rfl⟩; rfl) (fun r u H locs hw hP hD hS => ?_)
          obtain ⟨hr0, rfl⟩ := hw
          subst r
          have hP : va_P D vwCl (wW_k_X9_fitAssumptions ty X hn kn on cu pu gw su po ob an ch cg fb x20_12_17 x20_13_17 x20_14_17 lb ic ai ao) H := hP
          have hD : va_D A (wW_k_X9_fitAssumptions ty X hn kn on cu pu gw su po ob an ch cg fb x20_12_17 x20_13_17 x20_14_17 lb ic ai ao) := hD
          refine W.widen (k := 0) (n := 0) (Nat.le_of_ble_eq_true rfl) (Nat.le_of_ble_eq_true rfl) ?_
          refine lv_ior hx hb dX9_fitAssumptions_42 ?_
          refine va_put (D := D) (ci := 11) (v := .int (x20_12_17 ||| t_39)) (ty := tyX9 12) (C := RX9) (T := TX9) (N := 17) hx hb hts iv_k_X9_fitAssumptions_X9 tyX9 tyX9_ok nmX9 hown hK hP hD hS 6 rfl rfl 12 (by decide) (hts (.fieldLink RX9 182 "AnswerFold$Solver" "mustHave" "I") (by decide +kernel)) (fun _ h9 => h9) rfl (by decide +kernel) rfl rfl (Nat.le_of_ble_eq_true rfl) dX9_fitAssumptions_43 (fun H locs hP hD hS => ?_)
          have hP : va_P D vwCl (wW_k_X9_fitAssumptions ty X hn kn on cu pu gw su po ob an ch cg fb (x20_12_17 ||| t_39) x20_13_17 x20_14_17 lb ic ai ao) H := hP
          have hD : va_D A (wW_k_X9_fitAssumptions ty X hn kn on cu pu gw su po ob an ch cg fb (x20_12_17 ||| t_39) x20_13_17 x20_14_17 lb ic ai ao) := hD
          refine lv_aload_n hx hb dX9_fitAssumptions_46 rfl (lv_at hl 0 rfl) ?_
          refine lv_aload_n hx hb dX9_fitAssumptions_47 rfl (lv_at hl 0 rfl) ?_
          refine va_get (D := D) (ci := 11) (v := .int x20_14_17) (C := RX9) (T := TX9) (N := 17) hx hb hts iv_k_X9_fitAssumptions_X9 hown hK hP 6 rfl rfl 14 (by decide) (hts (.fieldLink RX9 188 "AnswerFold$Solver" "isHopeless" "Z") (by decide +kernel)) (fun _ h9 => h9) rfl dX9_fitAssumptions_48 ?_
          have J_73 : ∀ (s0_73 : Int32), TT = m_k_X9_fitAssumptions_73 on su ob ao (m_k_X9_fitAssumptions_17 on su po ob ai ao n_17) t_39 v3_17 x20_12_17 x20_13_17 s0_73 → s0_73 = 0 ∨ s0_73 = 1 → ∀ (H : Heap) (locs : List Loc), va_P D vwCl (wW_k_X9_fitAssumptions ty X hn kn on cu pu gw su po ob an ch cg fb (x20_12_17 ||| t_39) x20_13_17 x20_14_17 lb ic ai ao) H → va_D A (wW_k_X9_fitAssumptions ty X hn kn on cu pu gw su po ob an ch cg fb (x20_12_17 ||| t_39) x20_13_17 x20_14_17 lb ic ai ao) → va_S A s.heap H locs → ∀ ls : Array Slot, lv_has ls 4 [(0, .ref (X 20)), (1, .ref (X 41)), (2, .ref (X 43)), (3, .int v3_17)] → W p l e (headSpec vs_k_X9_fitAssumptions { frames := 2, cells := 0, slots := 0, locals := 44 }).room s m ([.ref (X 20), .ref (X 41), .ref (X 43)] : List Value).toArray below meth c H locs 0 0 (MQ below (va_Qv (fun u : va_W => ((u = (wW_k_X9_fitAssumptions ty X hn kn on cu pu gw su po ob an ch cg fb TT.1 TT.2.1 TT.2.2 lb ic ai ao)))) (wq_B D A) A) ([.ref (X 20), .ref (X 41), .ref (X 43)] : List Value).toArray s 0 0 A) (F0 m 73 ls [.int s0_73, .ref (X 20)]) := by
            intro s0_73 hT hb_s0_73 H locs hP hD hS ls hl
            rw [m_k_X9_fitAssumptions_73] at hT
            refine va_put (D := D) (ci := 11) (v := .int s0_73) (ty := tyX9 14) (C := RX9) (T := TX9) (N := 17) hx hb hts iv_k_X9_fitAssumptions_X9 tyX9 tyX9_ok nmX9 hown hK hP hD hS 6 rfl rfl 14 (by decide) (hts (.fieldLink RX9 188 "AnswerFold$Solver" "isHopeless" "Z") (by decide +kernel)) (fun _ h9 => h9) rfl (by decide +kernel) (wz_nar hb_s0_73) (wz_fit hb_s0_73) (Nat.le_of_ble_eq_true rfl) dX9_fitAssumptions_73 (fun H locs hP hD hS => ?_)
            have hP : va_P D vwCl (wW_k_X9_fitAssumptions ty X hn kn on cu pu gw su po ob an ch cg fb (x20_12_17 ||| t_39) x20_13_17 s0_73 lb ic ai ao) H := hP
            have hD : va_D A (wW_k_X9_fitAssumptions ty X hn kn on cu pu gw su po ob an ch cg fb (x20_12_17 ||| t_39) x20_13_17 s0_73 lb ic ai ao) := hD
            exact J_76 (x20_12_17 ||| t_39) s0_73 hT hb_s0_73 _ _ hP hD hS _ (lv_sub hl [0, 1, 2, 3] rfl)
          have J_68 : ∀ (_ : Unit), TT = m_k_X9_fitAssumptions_68 on su ob ao (m_k_X9_fitAssumptions_17 on su po ob ai ao n_17) t_39 v3_17 x20_12_17 x20_13_17 → ∀ (H : Heap) (locs : List Loc), va_P D vwCl (wW_k_X9_fitAssumptions ty X hn kn on cu pu gw su po ob an ch cg fb (x20_12_17 ||| t_39) x20_13_17 x20_14_17 lb ic ai ao) H → va_D A (wW_k_X9_fitAssumptions ty X hn kn on cu pu gw su po ob an ch cg fb (x20_12_17 ||| t_39) x20_13_17 x20_14_17 lb ic ai ao) → va_S A s.heap H locs → ∀ ls : Array Slot, lv_has ls 4 [(0, .ref (X 20)), (1, .ref (X 41)), (2, .ref (X 43)), (3, .int v3_17)] → W p l e (headSpec vs_k_X9_fitAssumptions { frames := 2, cells := 0, slots := 0, locals := 44 }).room s m ([.ref (X 20), .ref (X 41), .ref (X 43)] : List Value).toArray below meth c H locs 0 0 (MQ below (va_Qv (fun u : va_W => ((u = (wW_k_X9_fitAssumptions ty X hn kn on cu pu gw su po ob an ch cg fb TT.1 TT.2.1 TT.2.2 lb ic ai ao)))) (wq_B D A) A) ([.ref (X 20), .ref (X 41), .ref (X 43)] : List Value).toArray s 0 0 A) (F0 m 68 ls [.ref (X 20)]) := by
            intro _ hT  H locs hP hD hS ls hl
            rw [m_k_X9_fitAssumptions_68] at hT
            refine lv_iconst (v := 1) hx hb dX9_fitAssumptions_68 (by decide) ?_
            refine lv_goto (tgt := 73) hx hb dX9_fitAssumptions_69 (by decide) ?_
            exact J_73 1 hT (by decide) _ _ hP hD hS _ (lv_sub hl [0, 1, 2, 3] rfl)
          refine lv_if_ne (tgt := 68) hx hb dX9_fitAssumptions_51 (by decide) (fun c_19 => ?_) (fun c_19 => ?_)
          · rw [if_neg c_19] at hT
            exact J_68 () hT _ _ hP hD hS _ (lv_sub hl [0, 1, 2, 3] rfl)
          · rw [if_pos c_19] at hT
            refine lv_aload_n hx hb dX9_fitAssumptions_54 rfl (lv_at hl 0 rfl) ?_
            refine va_get (D := D) (ci := 11) (v := .ref (X 8)) (C := RX9) (T := TX9) (N := 17) hx hb hts iv_k_X9_fitAssumptions_X9 hown hK hP 6 rfl rfl 1 (by decide) (hts (.fieldLink RX9 38 "AnswerFold$Solver" "grounding" "LAnswerFold$Grounding;") (by decide +kernel)) (fun _ h9 => h9) rfl dX9_fitAssumptions_55 ?_
            refine va_getN (D := D) (ci := 5) (v := .ref (X 12)) (C := RX3) (T := TX3) (N := 16) hx hb hts iv_k_X9_fitAssumptions_X3 hown hK hP 0 rfl rfl 3 (by decide) (hE.at (.fieldLinkNest "AnswerFold$Solver" 195 "AnswerFold$Grounding" "possible" "LAnswerFold$AtomSet;" "AnswerFold") (by decide +kernel)) (fun _ h9 => h9) rfl dX9_fitAssumptions_58 ?_
            refine lv_iload_n hx hb dX9_fitAssumptions_61 rfl (lv_at hl 3 rfl) ?_
            obtain ⟨t_62, ht_62⟩ : ∃ t, t = m_k_X1_contains po v3_17 := ⟨_, rfl⟩
            rw [lE_eq ht_62] at hT
            refine wq_iW (wc := (wW_k_X1_contains ty (X 12) (X 13) po)) (va_runV (As := [.int v3_17]) (rest := [.ref (X 20)]) ⟨hx, hb, hml, hown, hts⟩ (k_X1_contains l D ty td mi H.size (X 12) (X 13) po v3_17 t_62 ht_62) (cwV 1 hts gv_k_X9_fitAssumptions_5 rfl rfl rfl (by decide +kernel) ⟨(Nat.le_of_ble_eq_true rfl), (Nat.le_of_ble_eq_true rfl)⟩) ⟨(wq_preS hP hD hK hE hS hA [3, 4] rfl (by decide) (As := .ref (X 12) :: [.int v3_17])).1, va_recv (q0 := 3) (ci := 3) hK hP rfl rfl, (wq_preS hP hD hK hE hS hA [3, 4] rfl (by decide) (As := .ref (X 12) :: [.int v3_17])).2⟩ rfl rfl hl.1 rfl (lv_room (Nat.le_of_ble_eq_true rfl)) dX9_fitAssumptions_62 ⟨(Nat.le_of_ble_eq_true rfl), (Nat.le_of_ble_eq_true rfl)⟩) hS hA hP hD [3, 4] rfl (by decide) (fun _ _ h => by rcases h with ⟨-, -, rfl⟩; rfl) (fun r u H locs hw hP hD hS => ?_)
            obtain ⟨hr0, c_22, rfl⟩ := hw
            subst r
            have hP : va_P D vwCl (wW_k_X9_fitAssumptions ty X hn kn on cu pu gw su po ob an ch cg fb (x20_12_17 ||| t_39) x20_13_17 x20_14_17 lb ic ai ao) H := hP
            have hD : va_D A (wW_k_X9_fitAssumptions ty X hn kn on cu pu gw su po ob an ch cg fb (x20_12_17 ||| t_39) x20_13_17 x20_14_17 lb ic ai ao) := hD
            refine W.widen (k := 0) (n := 0) (Nat.le_of_ble_eq_true rfl) (Nat.le_of_ble_eq_true rfl) ?_
            refine lv_if_ne (tgt := 72) hx hb dX9_fitAssumptions_65 (by decide) (fun c_23 => ?_) (fun c_23 => ?_)
            · rw [if_neg c_23] at hT
              refine lv_iconst (v := 0) hx hb dX9_fitAssumptions_72 (by decide) ?_
              exact J_73 0 hT (by decide) _ _ hP hD hS _ (lv_sub hl [0, 1, 2, 3] rfl)
            · rw [if_pos c_23] at hT
              exact J_68 () hT _ _ hP hD hS _ (lv_sub hl [0, 1, 2, 3] rfl)
  exact L_17 wF 0 0 0 0 (wF_up 0) hT (by decide) (by decide) _ _ hP hD hS _ (lv_sub hl [1, 2, 3, 0] rfl)
