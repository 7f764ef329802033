/-! what the two sides cannot say at once -/
theorem lx_0 {xs : Nat → Int32} (c_22 : ¬ ((xs 1) < 0)) (c_23 : (xs 1) ≤ 3) (c_24 : ¬ ((xs 2) < 0)) (c_25 : ¬ ((xs 3) < (xs 2))) (c_26 : (xs 3) ≤ 9) (c_27 : (xs 4) = (-1)) (c_244 : ¬ ((xs 1) < 0)) (c_245 : ¬ (3 < (xs 1))) (c_246 : ¬ ((xs 2) < 0)) (c_247 : 9 < (xs 2)) : False := by
  rw [← Int32.toInt_inj] at c_27
  simp only [Int32.not_lt, Int32.not_le, Int32.lt_iff_toInt_lt, Int32.le_iff_toInt_le] at c_22 c_23 c_24 c_25 c_26 c_244 c_245 c_246 c_247
  have n9_0 : (-1 : Int32).toInt = -1 := rfl
  have n9_1 : (0 : Int32).toInt = 0 := rfl
  have n9_2 : (3 : Int32).toInt = 3 := rfl
  have n9_3 : (9 : Int32).toInt = 9 := rfl
  omega
theorem lx_1 {xs : Nat → Int32} (c_7 : ¬ ((xs 1) < 1)) (c_8 : ¬ (3 < (xs 1))) (c_9 : ¬ ((xs 2) < 0)) (c_10 : 8 ≤ (xs 2)) (c_87 : ¬ ((xs 1) < 1)) (c_88 : ¬ (3 < (xs 1))) (c_89 : ¬ ((xs 2) < 0)) (c_90 : ¬ (7 < (xs 2))) : False := by
  simp only [Int32.not_lt, Int32.not_le, Int32.lt_iff_toInt_lt, Int32.le_iff_toInt_le] at c_7 c_8 c_9 c_10 c_87 c_88 c_89 c_90
  have n9_0 : (0 : Int32).toInt = 0 := rfl
  have n9_1 : (1 : Int32).toInt = 1 := rfl
  have n9_2 : (3 : Int32).toInt = 3 := rfl
  have n9_3 : (7 : Int32).toInt = 7 := rfl
  have n9_4 : (8 : Int32).toInt = 8 := rfl
  omega
theorem lx_2 {xs : Nat → Int32} (c_11 : ¬ ((xs 1) < 1)) (c_12 : ¬ (3 < (xs 1))) (c_13 : ¬ ((xs 2) < 0)) (c_14 : ¬ (8 ≤ (xs 2))) (c_15 : ¬ (0 = (xs 1))) (c_16 : (-1) = (xs 2)) (c_97 : ¬ ((xs 1) < 1)) (c_98 : ¬ (3 < (xs 1))) (c_99 : ¬ ((xs 2) < 0)) (c_100 : 7 < (xs 2)) : False := by
  rw [← Int32.toInt_inj] at c_15
  rw [← Int32.toInt_inj] at c_16
  simp only [Int32.not_lt, Int32.not_le, Int32.lt_iff_toInt_lt, Int32.le_iff_toInt_le] at c_11 c_12 c_13 c_14 c_97 c_98 c_99 c_100
  have n9_0 : (-1 : Int32).toInt = -1 := rfl
  have n9_1 : (0 : Int32).toInt = 0 := rfl
  have n9_2 : (1 : Int32).toInt = 1 := rfl
  have n9_3 : (3 : Int32).toInt = 3 := rfl
  have n9_4 : (7 : Int32).toInt = 7 := rfl
  have n9_5 : (8 : Int32).toInt = 8 := rfl
  omega
theorem lx_3 {xs : Nat → Int32} (c_11 : ¬ ((xs 1) < 1)) (c_12 : ¬ (3 < (xs 1))) (c_13 : ¬ ((xs 2) < 0)) (c_14 : ¬ (8 ≤ (xs 2))) (c_15 : ¬ (0 = (xs 1))) (c_16 : (-1) = (xs 2)) (c_101 : ¬ ((xs 1) < 1)) (c_102 : ¬ (3 < (xs 1))) (c_103 : ¬ ((xs 2) < 0)) (c_104 : ¬ (7 < (xs 2))) : False := by
  rw [← Int32.toInt_inj] at c_15
  rw [← Int32.toInt_inj] at c_16
  simp only [Int32.not_lt, Int32.not_le, Int32.lt_iff_toInt_lt, Int32.le_iff_toInt_le] at c_11 c_12 c_13 c_14 c_101 c_102 c_103 c_104
  have n9_0 : (-1 : Int32).toInt = -1 := rfl
  have n9_1 : (0 : Int32).toInt = 0 := rfl
  have n9_2 : (1 : Int32).toInt = 1 := rfl
  have n9_3 : (3 : Int32).toInt = 3 := rfl
  have n9_4 : (7 : Int32).toInt = 7 := rfl
  have n9_5 : (8 : Int32).toInt = 8 := rfl
  omega
theorem lx_4 {xs : Nat → Int32} (c_17 : ¬ ((xs 1) < 1)) (c_18 : ¬ (3 < (xs 1))) (c_19 : ¬ ((xs 2) < 0)) (c_20 : ¬ (8 ≤ (xs 2))) (c_21 : 0 = (xs 1)) (c_22 : 0 = (xs 2)) (c_111 : ¬ ((xs 1) < 1)) (c_112 : ¬ (3 < (xs 1))) (c_113 : ¬ ((xs 2) < 0)) (c_114 : 7 < (xs 2)) : False := by
  rw [← Int32.toInt_inj] at c_21
  rw [← Int32.toInt_inj] at c_22
  simp only [Int32.not_lt, Int32.not_le, Int32.lt_iff_toInt_lt, Int32.le_iff_toInt_le] at c_17 c_18 c_19 c_20 c_111 c_112 c_113 c_114
  have n9_0 : (0 : Int32).toInt = 0 := rfl
  have n9_1 : (1 : Int32).toInt = 1 := rfl
  have n9_2 : (3 : Int32).toInt = 3 := rfl
  have n9_3 : (7 : Int32).toInt = 7 := rfl
  have n9_4 : (8 : Int32).toInt = 8 := rfl
  omega
theorem lx_5 {xs : Nat → Int32} (c_17 : ¬ ((xs 1) < 1)) (c_18 : ¬ (3 < (xs 1))) (c_19 : ¬ ((xs 2) < 0)) (c_20 : ¬ (8 ≤ (xs 2))) (c_21 : 0 = (xs 1)) (c_22 : 0 = (xs 2)) (c_115 : ¬ ((xs 1) < 1)) (c_116 : ¬ (3 < (xs 1))) (c_117 : ¬ ((xs 2) < 0)) (c_118 : ¬ (7 < (xs 2))) : False := by
  rw [← Int32.toInt_inj] at c_21
  rw [← Int32.toInt_inj] at c_22
  simp only [Int32.not_lt, Int32.not_le, Int32.lt_iff_toInt_lt, Int32.le_iff_toInt_le] at c_17 c_18 c_19 c_20 c_115 c_116 c_117 c_118
  have n9_0 : (0 : Int32).toInt = 0 := rfl
  have n9_1 : (1 : Int32).toInt = 1 := rfl
  have n9_2 : (3 : Int32).toInt = 3 := rfl
  have n9_3 : (7 : Int32).toInt = 7 := rfl
  have n9_4 : (8 : Int32).toInt = 8 := rfl
  omega
theorem lx_6 {xs : Nat → Int32} (c_23 : ¬ ((xs 1) < 1)) (c_24 : ¬ (3 < (xs 1))) (c_25 : ¬ ((xs 2) < 0)) (c_26 : ¬ (8 ≤ (xs 2))) (c_27 : ¬ (0 = (xs 1))) (c_28 : ¬ ((-1) = (xs 2))) (c_125 : ¬ ((xs 1) < 1)) (c_126 : ¬ (3 < (xs 1))) (c_127 : ¬ ((xs 2) < 0)) (c_128 : 7 < (xs 2)) : False := by
  rw [← Int32.toInt_inj] at c_27
  rw [← Int32.toInt_inj] at c_28
  simp only [Int32.not_lt, Int32.not_le, Int32.lt_iff_toInt_lt, Int32.le_iff_toInt_le] at c_23 c_24 c_25 c_26 c_125 c_126 c_127 c_128
  have n9_0 : (-1 : Int32).toInt = -1 := rfl
  have n9_1 : (0 : Int32).toInt = 0 := rfl
  have n9_2 : (1 : Int32).toInt = 1 := rfl
  have n9_3 : (3 : Int32).toInt = 3 := rfl
  have n9_4 : (7 : Int32).toInt = 7 := rfl
  have n9_5 : (8 : Int32).toInt = 8 := rfl
  omega
theorem lx_7 {xs : Nat → Int32} (c_29 : ¬ ((xs 1) < 1)) (c_30 : ¬ (3 < (xs 1))) (c_31 : ¬ ((xs 2) < 0)) (c_32 : ¬ (8 ≤ (xs 2))) (c_33 : 0 = (xs 1)) (c_34 : ¬ (0 = (xs 2))) (c_139 : ¬ ((xs 1) < 1)) (c_140 : ¬ (3 < (xs 1))) (c_141 : ¬ ((xs 2) < 0)) (c_142 : 7 < (xs 2)) : False := by
  rw [← Int32.toInt_inj] at c_33
  rw [← Int32.toInt_inj] at c_34
  simp only [Int32.not_lt, Int32.not_le, Int32.lt_iff_toInt_lt, Int32.le_iff_toInt_le] at c_29 c_30 c_31 c_32 c_139 c_140 c_141 c_142
  have n9_0 : (0 : Int32).toInt = 0 := rfl
  have n9_1 : (1 : Int32).toInt = 1 := rfl
  have n9_2 : (3 : Int32).toInt = 3 := rfl
  have n9_3 : (7 : Int32).toInt = 7 := rfl
  have n9_4 : (8 : Int32).toInt = 8 := rfl
  omega
