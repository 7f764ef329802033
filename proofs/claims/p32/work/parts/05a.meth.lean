theorem dJ13_bitCount_95d88_0 : decode cJ13_bitCount_95d88 0 = .ok (.lload_n 0, 1) := by decide +kernel
theorem dJ13_bitCount_95d88_1 : decode cJ13_bitCount_95d88 1 = .ok (.lload_n 0, 1) := by decide +kernel
theorem dJ13_bitCount_95d88_2 : decode cJ13_bitCount_95d88 2 = .ok (.iconst 1, 1) := by decide +kernel
theorem dJ13_bitCount_95d88_3 : decode cJ13_bitCount_95d88 3 = .ok (.lushr, 1) := by decide +kernel
theorem dJ13_bitCount_95d88_4 : decode cJ13_bitCount_95d88 4 = .ok (.ldc2_w 314, 3) := by decide +kernel
theorem dJ13_bitCount_95d88_7 : decode cJ13_bitCount_95d88 7 = .ok (.land, 1) := by decide +kernel
theorem dJ13_bitCount_95d88_8 : decode cJ13_bitCount_95d88 8 = .ok (.lsub, 1) := by decide +kernel
theorem dJ13_bitCount_95d88_9 : decode cJ13_bitCount_95d88 9 = .ok (.lstore_n 0, 1) := by decide +kernel
theorem dJ13_bitCount_95d88_10 : decode cJ13_bitCount_95d88 10 = .ok (.lload_n 0, 1) := by decide +kernel
theorem dJ13_bitCount_95d88_11 : decode cJ13_bitCount_95d88 11 = .ok (.ldc2_w 316, 3) := by decide +kernel
theorem dJ13_bitCount_95d88_14 : decode cJ13_bitCount_95d88 14 = .ok (.land, 1) := by decide +kernel
theorem dJ13_bitCount_95d88_15 : decode cJ13_bitCount_95d88 15 = .ok (.lload_n 0, 1) := by decide +kernel
theorem dJ13_bitCount_95d88_16 : decode cJ13_bitCount_95d88 16 = .ok (.iconst 2, 1) := by decide +kernel
theorem dJ13_bitCount_95d88_17 : decode cJ13_bitCount_95d88 17 = .ok (.lushr, 1) := by decide +kernel
theorem dJ13_bitCount_95d88_18 : decode cJ13_bitCount_95d88 18 = .ok (.ldc2_w 316, 3) := by decide +kernel
theorem dJ13_bitCount_95d88_21 : decode cJ13_bitCount_95d88 21 = .ok (.land, 1) := by decide +kernel
theorem dJ13_bitCount_95d88_22 : decode cJ13_bitCount_95d88 22 = .ok (.ladd, 1) := by decide +kernel
theorem dJ13_bitCount_95d88_23 : decode cJ13_bitCount_95d88 23 = .ok (.lstore_n 0, 1) := by decide +kernel
theorem dJ13_bitCount_95d88_24 : decode cJ13_bitCount_95d88 24 = .ok (.lload_n 0, 1) := by decide +kernel
theorem dJ13_bitCount_95d88_25 : decode cJ13_bitCount_95d88 25 = .ok (.lload_n 0, 1) := by decide +kernel
theorem dJ13_bitCount_95d88_26 : decode cJ13_bitCount_95d88 26 = .ok (.iconst 4, 1) := by decide +kernel
theorem dJ13_bitCount_95d88_27 : decode cJ13_bitCount_95d88 27 = .ok (.lushr, 1) := by decide +kernel
theorem dJ13_bitCount_95d88_28 : decode cJ13_bitCount_95d88 28 = .ok (.ladd, 1) := by decide +kernel
theorem dJ13_bitCount_95d88_29 : decode cJ13_bitCount_95d88 29 = .ok (.ldc2_w 318, 3) := by decide +kernel
theorem dJ13_bitCount_95d88_32 : decode cJ13_bitCount_95d88 32 = .ok (.land, 1) := by decide +kernel
theorem dJ13_bitCount_95d88_33 : decode cJ13_bitCount_95d88 33 = .ok (.lstore_n 0, 1) := by decide +kernel
theorem dJ13_bitCount_95d88_34 : decode cJ13_bitCount_95d88 34 = .ok (.lload_n 0, 1) := by decide +kernel
theorem dJ13_bitCount_95d88_35 : decode cJ13_bitCount_95d88 35 = .ok (.lload_n 0, 1) := by decide +kernel
theorem dJ13_bitCount_95d88_36 : decode cJ13_bitCount_95d88 36 = .ok (.bipush 8, 2) := by decide +kernel
theorem dJ13_bitCount_95d88_38 : decode cJ13_bitCount_95d88 38 = .ok (.lushr, 1) := by decide +kernel
theorem dJ13_bitCount_95d88_39 : decode cJ13_bitCount_95d88 39 = .ok (.ladd, 1) := by decide +kernel
theorem dJ13_bitCount_95d88_40 : decode cJ13_bitCount_95d88 40 = .ok (.lstore_n 0, 1) := by decide +kernel
theorem dJ13_bitCount_95d88_41 : decode cJ13_bitCount_95d88 41 = .ok (.lload_n 0, 1) := by decide +kernel
theorem dJ13_bitCount_95d88_42 : decode cJ13_bitCount_95d88 42 = .ok (.lload_n 0, 1) := by decide +kernel
theorem dJ13_bitCount_95d88_43 : decode cJ13_bitCount_95d88 43 = .ok (.bipush 16, 2) := by decide +kernel
theorem dJ13_bitCount_95d88_45 : decode cJ13_bitCount_95d88 45 = .ok (.lushr, 1) := by decide +kernel
theorem dJ13_bitCount_95d88_46 : decode cJ13_bitCount_95d88 46 = .ok (.ladd, 1) := by decide +kernel
theorem dJ13_bitCount_95d88_47 : decode cJ13_bitCount_95d88 47 = .ok (.lstore_n 0, 1) := by decide +kernel
theorem dJ13_bitCount_95d88_48 : decode cJ13_bitCount_95d88 48 = .ok (.lload_n 0, 1) := by decide +kernel
theorem dJ13_bitCount_95d88_49 : decode cJ13_bitCount_95d88 49 = .ok (.lload_n 0, 1) := by decide +kernel
theorem dJ13_bitCount_95d88_50 : decode cJ13_bitCount_95d88 50 = .ok (.bipush 32, 2) := by decide +kernel
theorem dJ13_bitCount_95d88_52 : decode cJ13_bitCount_95d88 52 = .ok (.lushr, 1) := by decide +kernel
theorem dJ13_bitCount_95d88_53 : decode cJ13_bitCount_95d88 53 = .ok (.ladd, 1) := by decide +kernel
theorem dJ13_bitCount_95d88_54 : decode cJ13_bitCount_95d88 54 = .ok (.lstore_n 0, 1) := by decide +kernel
theorem dJ13_bitCount_95d88_55 : decode cJ13_bitCount_95d88 55 = .ok (.lload_n 0, 1) := by decide +kernel
theorem dJ13_bitCount_95d88_56 : decode cJ13_bitCount_95d88 56 = .ok (.l2i, 1) := by decide +kernel
theorem dJ13_bitCount_95d88_57 : decode cJ13_bitCount_95d88 57 = .ok (.bipush 127, 2) := by decide +kernel
theorem dJ13_bitCount_95d88_59 : decode cJ13_bitCount_95d88 59 = .ok (.iand, 1) := by decide +kernel
theorem dJ13_bitCount_95d88_60 : decode cJ13_bitCount_95d88 60 = .ok (.ireturn, 1) := by decide +kernel
def vs_k_J13_bitCount_95d88 : List Cond := .code yJ13_bitCount_95d88 cJ13_bitCount_95d88 2 (some .int) :: ([.constantLong RJ13 314 6148914691236517205, .constantLong RJ13 316 3689348814741910323, .constantLong RJ13 318 1085102592571150095])
set_option maxHeartbeats 4000000 in
set_option maxRecDepth 100000 in
theorem k_J13_bitCount_95d88 (l : Launch) (D : va_G) (ty : Nat → ClassId) (td mi sz : Nat) (a1 : Int64) (TT : r_k_J13_bitCount_95d88) (hTT : TT = m_k_J13_bitCount_95d88 a1) : Met l yJ13_bitCount_95d88 vs_k_J13_bitCount_95d88 { frames := 0, cells := 0, slots := 0, locals := 0 } (va_Pc [.long a1] (wq_P D ty td mi [] sz)) (va_Qi (fun (r : Int32) (u : va_W) => (r = TT ∧ (u = []))) (wq_B D (va_A [] sz)) (va_A [] sz)) 0 0 (va_A [] sz) := by
  refine Met.ofW (cc := cJ13_bitCount_95d88) (maxL := 2) (ret := (some .int)) (by decide) rfl ?_
  intro p e s m args below meth c s₁ B hml hv
  obtain ⟨rfl, hsz, hP, hK, hD0, hE⟩ := hv
  have hx := B.exec
  have hb := B.bytes
  have hr := B.returns
  have hts := atoms_spec (ws := vs_k_J13_bitCount_95d88) B.pre
  have hown : s.vm.findClass RJ13 = some m.cls := findClass_of_methodNamed B.named
  have hlocks := B.notSynchronized
  subst hsz
  have hD := hD0.self (sz := s.heap.size)
  generalize hAe : va_A [] s.heap.size = A at hD hE ⊢
  have hA : ∀ q : Nat, s.heap.size ≤ q → A q := fun q h => by rw [← hAe]; exact Or.inr h
  have hS : va_S A s.heap s.heap [] := va_S.rf
  have hP : va_P D vwCl [] s.heap := hP
  have hl := lv_entry ([.long a1]) (n := 2) (Nat.le_of_ble_eq_true rfl)
  rw [lg_entry_eq]
  generalize (lg_sl ([.long a1]) ++ List.replicate (2 - (lg_sl ([.long a1])).length) Slot.unset).toArray = ls at hl ⊢
  have hl : lv_has ls 2 [(0, .long a1)] := hl
  have END : ∀ (r : Int32), TT = r → ∀ (H : Heap) (locs : List Loc), va_P D vwCl [] H → va_D A [] → va_S A s.heap H locs → ∀ (ls : Array Slot) (pc : Nat), decode cJ13_bitCount_95d88 pc = .ok (.ireturn, 1) → W p l e (headSpec vs_k_J13_bitCount_95d88 { frames := 0, cells := 0, slots := 0, locals := 0 }).room s m ([.long a1] : List Value).toArray below meth c H locs 0 0 (MQ below (va_Qi (fun (r : Int32) (u : va_W) => (r = TT ∧ (u = []))) (wq_B D A) A) ([.long a1] : List Value).toArray s 0 0 A) (F0 m pc ls [.int r]) := by
    intro r hT H locs hP hD hS ls pc hd
    have hM : TT = r := hT
    exact W.iret (v := r) hx hb hr (fun t ht hW => ⟨⟨r, [], rfl, ⟨(by rw [hM]), rfl⟩, wq_B.of ht hP hD⟩, hS.F ht⟩) hS.2.2 hd
  have hT := hTT
  rw [m_k_J13_bitCount_95d88] at hT
  refine lv_lload_n hx hb dJ13_bitCount_95d88_0 rfl (lv_at hl 0 rfl) ?_
  refine lv_lload_n hx hb dJ13_bitCount_95d88_1 rfl (lv_at hl 0 rfl) ?_
  refine lv_iconst (v := 1) hx hb dJ13_bitCount_95d88_2 (by decide) ?_
  refine lv_lushr hx hb dJ13_bitCount_95d88_3 rfl ?_
  refine lv_ldc2 (v := 6148914691236517205) hx hb hown (hts (.constantLong RJ13 314 6148914691236517205) (by decide +kernel)) dJ13_bitCount_95d88_4 ?_
  refine lv_land hx hb dJ13_bitCount_95d88_7 ?_
  refine lv_lsub hx hb dJ13_bitCount_95d88_8 ?_
  refine lv_lstore_n (lv' := [(0, .long (a1 - (((a1.toUInt64 >>> ((1 : Int32).toInt64.toUInt64 &&& Int64.toUInt64 63)).toInt64) &&& 6148914691236517205)))]) hx hb dJ13_bitCount_95d88_9 rfl hl (by decide) rfl (fun ls hl => ?_)
  refine lv_lload_n hx hb dJ13_bitCount_95d88_10 rfl (lv_at hl 0 rfl) ?_
  refine lv_ldc2 (v := 3689348814741910323) hx hb hown (hts (.constantLong RJ13 316 3689348814741910323) (by decide +kernel)) dJ13_bitCount_95d88_11 ?_
  refine lv_land hx hb dJ13_bitCount_95d88_14 ?_
  refine lv_lload_n hx hb dJ13_bitCount_95d88_15 rfl (lv_at hl 0 rfl) ?_
  refine lv_iconst (v := 2) hx hb dJ13_bitCount_95d88_16 (by decide) ?_
  refine lv_lushr hx hb dJ13_bitCount_95d88_17 rfl ?_
  refine lv_ldc2 (v := 3689348814741910323) hx hb hown (hts (.constantLong RJ13 316 3689348814741910323) (by decide +kernel)) dJ13_bitCount_95d88_18 ?_
  refine lv_land hx hb dJ13_bitCount_95d88_21 ?_
  refine lv_ladd hx hb dJ13_bitCount_95d88_22 ?_
  refine lv_lstore_n (lv' := [(0, .long (((a1 - (((a1.toUInt64 >>> ((1 : Int32).toInt64.toUInt64 &&& Int64.toUInt64 63)).toInt64) &&& 6148914691236517205)) &&& 3689348814741910323) + ((((a1 - (((a1.toUInt64 >>> ((1 : Int32).toInt64.toUInt64 &&& Int64.toUInt64 63)).toInt64) &&& 6148914691236517205)).toUInt64 >>> ((2 : Int32).toInt64.toUInt64 &&& Int64.toUInt64 63)).toInt64) &&& 3689348814741910323)))]) hx hb dJ13_bitCount_95d88_23 rfl hl (by decide) rfl (fun ls hl => ?_)
  refine lv_lload_n hx hb dJ13_bitCount_95d88_24 rfl (lv_at hl 0 rfl) ?_
  refine lv_lload_n hx hb dJ13_bitCount_95d88_25 rfl (lv_at hl 0 rfl) ?_
  refine lv_iconst (v := 4) hx hb dJ13_bitCount_95d88_26 (by decide) ?_
  refine lv_lushr hx hb dJ13_bitCount_95d88_27 rfl ?_
  refine lv_ladd hx hb dJ13_bitCount_95d88_28 ?_
  refine lv_ldc2 (v := 1085102592571150095) hx hb hown (hts (.constantLong RJ13 318 1085102592571150095) (by decide +kernel)) dJ13_bitCount_95d88_29 ?_
  refine lv_land hx hb dJ13_bitCount_95d88_32 ?_
  refine lv_lstore_n (lv' := [(0, .long (((((a1 - (((a1.toUInt64 >>> ((1 : Int32).toInt64.toUInt64 &&& Int64.toUInt64 63)).toInt64) &&& 6148914691236517205)) &&& 3689348814741910323) + ((((a1 - (((a1.toUInt64 >>> ((1 : Int32).toInt64.toUInt64 &&& Int64.toUInt64 63)).toInt64) &&& 6148914691236517205)).toUInt64 >>> ((2 : Int32).toInt64.toUInt64 &&& Int64.toUInt64 63)).toInt64) &&& 3689348814741910323)) + (((((a1 - (((a1.toUInt64 >>> ((1 : Int32).toInt64.toUInt64 &&& Int64.toUInt64 63)).toInt64) &&& 6148914691236517205)) &&& 3689348814741910323) + ((((a1 - (((a1.toUInt64 >>> ((1 : Int32).toInt64.toUInt64 &&& Int64.toUInt64 63)).toInt64) &&& 6148914691236517205)).toUInt64 >>> ((2 : Int32).toInt64.toUInt64 &&& Int64.toUInt64 63)).toInt64) &&& 3689348814741910323)).toUInt64 >>> ((4 : Int32).toInt64.toUInt64 &&& Int64.toUInt64 63)).toInt64)) &&& 1085102592571150095))]) hx hb dJ13_bitCount_95d88_33 rfl hl (by decide) rfl (fun ls hl => ?_)
  refine lv_lload_n hx hb dJ13_bitCount_95d88_34 rfl (lv_at hl 0 rfl) ?_
  refine lv_lload_n hx hb dJ13_bitCount_95d88_35 rfl (lv_at hl 0 rfl) ?_
  refine lv_bipush (v := 8) hx hb dJ13_bitCount_95d88_36 (by decide) ?_
  refine lv_lushr hx hb dJ13_bitCount_95d88_38 rfl ?_
  refine lv_ladd hx hb dJ13_bitCount_95d88_39 ?_
  refine lv_lstore_n (lv' := [(0, .long ((((((a1 - (((a1.toUInt64 >>> ((1 : Int32).toInt64.toUInt64 &&& Int64.toUInt64 63)).toInt64) &&& 6148914691236517205)) &&& 3689348814741910323) + ((((a1 - (((a1.toUInt64 >>> ((1 : Int32).toInt64.toUInt64 &&& Int64.toUInt64 63)).toInt64) &&& 6148914691236517205)).toUInt64 >>> ((2 : Int32).toInt64.toUInt64 &&& Int64.toUInt64 63)).toInt64) &&& 3689348814741910323)) + (((((a1 - (((a1.toUInt64 >>> ((1 : Int32).toInt64.toUInt64 &&& Int64.toUInt64 63)).toInt64) &&& 6148914691236517205)) &&& 3689348814741910323) + ((((a1 - (((a1.toUInt64 >>> ((1 : Int32).toInt64.toUInt64 &&& Int64.toUInt64 63)).toInt64) &&& 6148914691236517205)).toUInt64 >>> ((2 : Int32).toInt64.toUInt64 &&& Int64.toUInt64 63)).toInt64) &&& 3689348814741910323)).toUInt64 >>> ((4 : Int32).toInt64.toUInt64 &&& Int64.toUInt64 63)).toInt64)) &&& 1085102592571150095) + (((((((a1 - (((a1.toUInt64 >>> ((1 : Int32).toInt64.toUInt64 &&& Int64.toUInt64 63)).toInt64) &&& 6148914691236517205)) &&& 3689348814741910323) + ((((a1 - (((a1.toUInt64 >>> ((1 : Int32).toInt64.toUInt64 &&& Int64.toUInt64 63)).toInt64) &&& 6148914691236517205)).toUInt64 >>> ((2 : Int32).toInt64.toUInt64 &&& Int64.toUInt64 63)).toInt64) &&& 3689348814741910323)) + (((((a1 - (((a1.toUInt64 >>> ((1 : Int32).toInt64.toUInt64 &&& Int64.toUInt64 63)).toInt64) &&& 6148914691236517205)) &&& 3689348814741910323) + ((((a1 - (((a1.toUInt64 >>> ((1 : Int32).toInt64.toUInt64 &&& Int64.toUInt64 63)).toInt64) &&& 6148914691236517205)).toUInt64 >>> ((2 : Int32).toInt64.toUInt64 &&& Int64.toUInt64 63)).toInt64) &&& 3689348814741910323)).toUInt64 >>> ((4 : Int32).toInt64.toUInt64 &&& Int64.toUInt64 63)).toInt64)) &&& 1085102592571150095).toUInt64 >>> ((8 : Int32).toInt64.toUInt64 &&& Int64.toUInt64 63)).toInt64)))]) hx hb dJ13_bitCount_95d88_40 rfl hl (by decide) rfl (fun ls hl => ?_)
  refine lv_lload_n hx hb dJ13_bitCount_95d88_41 rfl (lv_at hl 0 rfl) ?_
  refine lv_lload_n hx hb dJ13_bitCount_95d88_42 rfl (lv_at hl 0 rfl) ?_
  refine lv_bipush (v := 16) hx hb dJ13_bitCount_95d88_43 (by decide) ?_
  refine lv_lushr hx hb dJ13_bitCount_95d88_45 rfl ?_
  refine lv_ladd hx hb dJ13_bitCount_95d88_46 ?_
  refine lv_lstore_n (lv' := [(0, .long (((((((a1 - (((a1.toUInt64 >>> ((1 : Int32).toInt64.toUInt64 &&& Int64.toUInt64 63)).toInt64) &&& 6148914691236517205)) &&& 3689348814741910323) + ((((a1 - (((a1.toUInt64 >>> ((1 : Int32).toInt64.toUInt64 &&& Int64.toUInt64 63)).toInt64) &&& 6148914691236517205)).toUInt64 >>> ((2 : Int32).toInt64.toUInt64 &&& Int64.toUInt64 63)).toInt64) &&& 3689348814741910323)) + (((((a1 - (((a1.toUInt64 >>> ((1 : Int32).toInt64.toUInt64 &&& Int64.toUInt64 63)).toInt64) &&& 6148914691236517205)) &&& 3689348814741910323) + ((((a1 - (((a1.toUInt64 >>> ((1 : Int32).toInt64.toUInt64 &&& Int64.toUInt64 63)).toInt64) &&& 6148914691236517205)).toUInt64 >>> ((2 : Int32).toInt64.toUInt64 &&& Int64.toUInt64 63)).toInt64) &&& 3689348814741910323)).toUInt64 >>> ((4 : Int32).toInt64.toUInt64 &&& Int64.toUInt64 63)).toInt64)) &&& 1085102592571150095) + (((((((a1 - (((a1.toUInt64 >>> ((1 : Int32).toInt64.toUInt64 &&& Int64.toUInt64 63)).toInt64) &&& 6148914691236517205)) &&& 3689348814741910323) + ((((a1 - (((a1.toUInt64 >>> ((1 : Int32).toInt64.toUInt64 &&& Int64.toUInt64 63)).toInt64) &&& 6148914691236517205)).toUInt64 >>> ((2 : Int32).toInt64.toUInt64 &&& Int64.toUInt64 63)).toInt64) &&& 3689348814741910323)) + (((((a1 - (((a1.toUInt64 >>> ((1 : Int32).toInt64.toUInt64 &&& Int64.toUInt64 63)).toInt64) &&& 6148914691236517205)) &&& 3689348814741910323) + ((((a1 - (((a1.toUInt64 >>> ((1 : Int32).toInt64.toUInt64 &&& Int64.toUInt64 63)).toInt64) &&& 6148914691236517205)).toUInt64 >>> ((2 : Int32).toInt64.toUInt64 &&& Int64.toUInt64 63)).toInt64) &&& 3689348814741910323)).toUInt64 >>> ((4 : Int32).toInt64.toUInt64 &&& Int64.toUInt64 63)).toInt64)) &&& 1085102592571150095).toUInt64 >>> ((8 : Int32).toInt64.toUInt64 &&& Int64.toUInt64 63)).toInt64)) + ((((((((a1 - (((a1.toUInt64 >>> ((1 : Int32).toInt64.toUInt64 &&& Int64.toUInt64 63)).toInt64) &&& 6148914691236517205)) &&& 3689348814741910323) + ((((a1 - (((a1.toUInt64 >>> ((1 : Int32).toInt64.toUInt64 &&& Int64.toUInt64 63)).toInt64) &&& 6148914691236517205)).toUInt64 >>> ((2 : Int32).toInt64.toUInt64 &&& Int64.toUInt64 63)).toInt64) &&& 3689348814741910323)) + (((((a1 - (((a1.toUInt64 >>> ((1 : Int32).toInt64.toUInt64 &&& Int64.toUInt64 63)).toInt64) &&& 6148914691236517205)) &&& 3689348814741910323) + ((((a1 - (((a1.toUInt64 >>> ((1 : Int32).toInt64.toUInt64 &&& Int64.toUInt64 63)).toInt64) &&& 6148914691236517205)).toUInt64 >>> ((2 : Int32).toInt64.toUInt64 &&& Int64.toUInt64 63)).toInt64) &&& 3689348814741910323)).toUInt64 >>> ((4 : Int32).toInt64.toUInt64 &&& Int64.toUInt64 63)).toInt64)) &&& 1085102592571150095) + (((((((a1 - (((a1.toUInt64 >>> ((1 : Int32).toInt64.toUInt64 &&& Int64.toUInt64 63)).toInt64) &&& 6148914691236517205)) &&& 3689348814741910323) + ((((a1 - (((a1.toUInt64 >>> ((1 : Int32).toInt64.toUInt64 &&& Int64.toUInt64 63)).toInt64) &&& 6148914691236517205)).toUInt64 >>> ((2 : Int32).toInt64.toUInt64 &&& Int64.toUInt64 63)).toInt64) &&& 3689348814741910323)) + (((((a1 - (((a1.toUInt64 >>> ((1 : Int32).toInt64.toUInt64 &&& Int64.toUInt64 63)).toInt64) &&& 6148914691236517205)) &&& 3689348814741910323) + ((((a1 - (((a1.toUInt64 >>> ((1 : Int32).toInt64.toUInt64 &&& Int64.toUInt64 63)).toInt64) &&& 6148914691236517205)).toUInt64 >>> ((2 : Int32).toInt64.toUInt64 &&& Int64.toUInt64 63)).toInt64) &&& 3689348814741910323)).toUInt64 >>> ((4 : Int32).toInt64.toUInt64 &&& Int64.toUInt64 63)).toInt64)) &&& 1085102592571150095).toUInt64 >>> ((8 : Int32).toInt64.toUInt64 &&& Int64.toUInt64 63)).toInt64)).toUInt64 >>> ((16 : Int32).toInt64.toUInt64 &&& Int64.toUInt64 63)).toInt64)))]) hx hb dJ13_bitCount_95d88_47 rfl hl (by decide) rfl (fun ls hl => ?_)
  refine lv_lload_n hx hb dJ13_bitCount_95d88_48 rfl (lv_at hl 0 rfl) ?_
  refine lv_lload_n hx hb dJ13_bitCount_95d88_49 rfl (lv_at hl 0 rfl) ?_
  refine lv_bipush (v := 32) hx hb dJ13_bitCount_95d88_50 (by decide) ?_
  refine lv_lushr hx hb dJ13_bitCount_95d88_52 rfl ?_
  refine lv_ladd hx hb dJ13_bitCount_95d88_53 ?_
  refine lv_lstore_n (lv' := [(0, .long ((((((((a1 - (((a1.toUInt64 >>> ((1 : Int32).toInt64.toUInt64 &&& Int64.toUInt64 63)).toInt64) &&& 6148914691236517205)) &&& 3689348814741910323) + ((((a1 - (((a1.toUInt64 >>> ((1 : Int32).toInt64.toUInt64 &&& Int64.toUInt64 63)).toInt64) &&& 6148914691236517205)).toUInt64 >>> ((2 : Int32).toInt64.toUInt64 &&& Int64.toUInt64 63)).toInt64) &&& 3689348814741910323)) + (((((a1 - (((a1.toUInt64 >>> ((1 : Int32).toInt64.toUInt64 &&& Int64.toUInt64 63)).toInt64) &&& 6148914691236517205)) &&& 3689348814741910323) + ((((a1 - (((a1.toUInt64 >>> ((1 : Int32).toInt64.toUInt64 &&& Int64.toUInt64 63)).toInt64) &&& 6148914691236517205)).toUInt64 >>> ((2 : Int32).toInt64.toUInt64 &&& Int64.toUInt64 63)).toInt64) &&& 3689348814741910323)).toUInt64 >>> ((4 : Int32).toInt64.toUInt64 &&& Int64.toUInt64 63)).toInt64)) &&& 1085102592571150095) + (((((((a1 - (((a1.toUInt64 >>> ((1 : Int32).toInt64.toUInt64 &&& Int64.toUInt64 63)).toInt64) &&& 6148914691236517205)) &&& 3689348814741910323) + ((((a1 - (((a1.toUInt64 >>> ((1 : Int32).toInt64.toUInt64 &&& Int64.toUInt64 63)).toInt64) &&& 6148914691236517205)).toUInt64 >>> ((2 : Int32).toInt64.toUInt64 &&& Int64.toUInt64 63)).toInt64) &&& 3689348814741910323)) + (((((a1 - (((a1.toUInt64 >>> ((1 : Int32).toInt64.toUInt64 &&& Int64.toUInt64 63)).toInt64) &&& 6148914691236517205)) &&& 3689348814741910323) + ((((a1 - (((a1.toUInt64 >>> ((1 : Int32).toInt64.toUInt64 &&& Int64.toUInt64 63)).toInt64) &&& 6148914691236517205)).toUInt64 >>> ((2 : Int32).toInt64.toUInt64 &&& Int64.toUInt64 63)).toInt64) &&& 3689348814741910323)).toUInt64 >>> ((4 : Int32).toInt64.toUInt64 &&& Int64.toUInt64 63)).toInt64)) &&& 1085102592571150095).toUInt64 >>> ((8 : Int32).toInt64.toUInt64 &&& Int64.toUInt64 63)).toInt64)) + ((((((((a1 - (((a1.toUInt64 >>> ((1 : Int32).toInt64.toUInt64 &&& Int64.toUInt64 63)).toInt64) &&& 6148914691236517205)) &&& 3689348814741910323) + ((((a1 - (((a1.toUInt64 >>> ((1 : Int32).toInt64.toUInt64 &&& Int64.toUInt64 63)).toInt64) &&& 6148914691236517205)).toUInt64 >>> ((2 : Int32).toInt64.toUInt64 &&& Int64.toUInt64 63)).toInt64) &&& 3689348814741910323)) + (((((a1 - (((a1.toUInt64 >>> ((1 : Int32).toInt64.toUInt64 &&& Int64.toUInt64 63)).toInt64) &&& 6148914691236517205)) &&& 3689348814741910323) + ((((a1 - (((a1.toUInt64 >>> ((1 : Int32).toInt64.toUInt64 &&& Int64.toUInt64 63)).toInt64) &&& 6148914691236517205)).toUInt64 >>> ((2 : Int32).toInt64.toUInt64 &&& Int64.toUInt64 63)).toInt64) &&& 3689348814741910323)).toUInt64 >>> ((4 : Int32).toInt64.toUInt64 &&& Int64.toUInt64 63)).toInt64)) &&& 1085102592571150095) + (((((((a1 - (((a1.toUInt64 >>> ((1 : Int32).toInt64.toUInt64 &&& Int64.toUInt64 63)).toInt64) &&& 6148914691236517205)) &&& 3689348814741910323) + ((((a1 - (((a1.toUInt64 >>> ((1 : Int32).toInt64.toUInt64 &&& Int64.toUInt64 63)).toInt64) &&& 6148914691236517205)).toUInt64 >>> ((2 : Int32).toInt64.toUInt64 &&& Int64.toUInt64 63)).toInt64) &&& 3689348814741910323)) + (((((a1 - (((a1.toUInt64 >>> ((1 : Int32).toInt64.toUInt64 &&& Int64.toUInt64 63)).toInt64) &&& 6148914691236517205)) &&& 3689348814741910323) + ((((a1 - (((a1.toUInt64 >>> ((1 : Int32).toInt64.toUInt64 &&& Int64.toUInt64 63)).toInt64) &&& 6148914691236517205)).toUInt64 >>> ((2 : Int32).toInt64.toUInt64 &&& Int64.toUInt64 63)).toInt64) &&& 3689348814741910323)).toUInt64 >>> ((4 : Int32).toInt64.toUInt64 &&& Int64.toUInt64 63)).toInt64)) &&& 1085102592571150095).toUInt64 >>> ((8 : Int32).toInt64.toUInt64 &&& Int64.toUInt64 63)).toInt64)).toUInt64 >>> ((16 : Int32).toInt64.toUInt64 &&& Int64.toUInt64 63)).toInt64)) + (((((((((a1 - (((a1.toUInt64 >>> ((1 : Int32).toInt64.toUInt64 &&& Int64.toUInt64 63)).toInt64) &&& 6148914691236517205)) &&& 3689348814741910323) + ((((a1 - (((a1.toUInt64 >>> ((1 : Int32).toInt64.toUInt64 &&& Int64.toUInt64 63)).toInt64) &&& 6148914691236517205)).toUInt64 >>> ((2 : Int32).toInt64.toUInt64 &&& Int64.toUInt64 63)).toInt64) &&& 3689348814741910323)) + (((((a1 - (((a1.toUInt64 >>> ((1 : Int32).toInt64.toUInt64 &&& Int64.toUInt64 63)).toInt64) &&& 6148914691236517205)) &&& 3689348814741910323) + ((((a1 - (((a1.toUInt64 >>> ((1 : Int32).toInt64.toUInt64 &&& Int64.toUInt64 63)).toInt64) &&& 6148914691236517205)).toUInt64 >>> ((2 : Int32).toInt64.toUInt64 &&& Int64.toUInt64 63)).toInt64) &&& 3689348814741910323)).toUInt64 >>> ((4 : Int32).toInt64.toUInt64 &&& Int64.toUInt64 63)).toInt64)) &&& 1085102592571150095) + (((((((a1 - (((a1.toUInt64 >>> ((1 : Int32).toInt64.toUInt64 &&& Int64.toUInt64 63)).toInt64) &&& 6148914691236517205)) &&& 3689348814741910323) + ((((a1 - (((a1.toUInt64 >>> ((1 : Int32).toInt64.toUInt64 &&& Int64.toUInt64 63)).toInt64) &&& 6148914691236517205)).toUInt64 >>> ((2 : Int32).toInt64.toUInt64 &&& Int64.toUInt64 63)).toInt64) &&& 3689348814741910323)) + (((((a1 - (((a1.toUInt64 >>> ((1 : Int32).toInt64.toUInt64 &&& Int64.toUInt64 63)).toInt64) &&& 6148914691236517205)) &&& 3689348814741910323) + ((((a1 - (((a1.toUInt64 >>> ((1 : Int32).toInt64.toUInt64 &&& Int64.toUInt64 63)).toInt64) &&& 6148914691236517205)).toUInt64 >>> ((2 : Int32).toInt64.toUInt64 &&& Int64.toUInt64 63)).toInt64) &&& 3689348814741910323)).toUInt64 >>> ((4 : Int32).toInt64.toUInt64 &&& Int64.toUInt64 63)).toInt64)) &&& 1085102592571150095).toUInt64 >>> ((8 : Int32).toInt64.toUInt64 &&& Int64.toUInt64 63)).toInt64)) + ((((((((a1 - (((a1.toUInt64 >>> ((1 : Int32).toInt64.toUInt64 &&& Int64.toUInt64 63)).toInt64) &&& 6148914691236517205)) &&& 3689348814741910323) + ((((a1 - (((a1.toUInt64 >>> ((1 : Int32).toInt64.toUInt64 &&& Int64.toUInt64 63)).toInt64) &&& 6148914691236517205)).toUInt64 >>> ((2 : Int32).toInt64.toUInt64 &&& Int64.toUInt64 63)).toInt64) &&& 3689348814741910323)) + (((((a1 - (((a1.toUInt64 >>> ((1 : Int32).toInt64.toUInt64 &&& Int64.toUInt64 63)).toInt64) &&& 6148914691236517205)) &&& 3689348814741910323) + ((((a1 - (((a1.toUInt64 >>> ((1 : Int32).toInt64.toUInt64 &&& Int64.toUInt64 63)).toInt64) &&& 6148914691236517205)).toUInt64 >>> ((2 : Int32).toInt64.toUInt64 &&& Int64.toUInt64 63)).toInt64) &&& 3689348814741910323)).toUInt64 >>> ((4 : Int32).toInt64.toUInt64 &&& Int64.toUInt64 63)).toInt64)) &&& 1085102592571150095) + (((((((a1 - (((a1.toUInt64 >>> ((1 : Int32).toInt64.toUInt64 &&& Int64.toUInt64 63)).toInt64) &&& 6148914691236517205)) &&& 3689348814741910323) + ((((a1 - (((a1.toUInt64 >>> ((1 : Int32).toInt64.toUInt64 &&& Int64.toUInt64 63)).toInt64) &&& 6148914691236517205)).toUInt64 >>> ((2 : Int32).toInt64.toUInt64 &&& Int64.toUInt64 63)).toInt64) &&& 3689348814741910323)) + (((((a1 - (((a1.toUInt64 >>> ((1 : Int32).toInt64.toUInt64 &&& Int64.toUInt64 63)).toInt64) &&& 6148914691236517205)) &&& 3689348814741910323) + ((((a1 - (((a1.toUInt64 >>> ((1 : Int32).toInt64.toUInt64 &&& Int64.toUInt64 63)).toInt64) &&& 6148914691236517205)).toUInt64 >>> ((2 : Int32).toInt64.toUInt64 &&& Int64.toUInt64 63)).toInt64) &&& 3689348814741910323)).toUInt64 >>> ((4 : Int32).toInt64.toUInt64 &&& Int64.toUInt64 63)).toInt64)) &&& 1085102592571150095).toUInt64 >>> ((8 : Int32).toInt64.toUInt64 &&& Int64.toUInt64 63)).toInt64)).toUInt64 >>> ((16 : Int32).toInt64.toUInt64 &&& Int64.toUInt64 63)).toInt64)).toUInt64 >>> ((32 : Int32).toInt64.toUInt64 &&& Int64.toUInt64 63)).toInt64)))]) hx hb dJ13_bitCount_95d88_54 rfl hl (by decide) rfl (fun ls hl => ?_)
  refine lv_lload_n hx hb dJ13_bitCount_95d88_55 rfl (lv_at hl 0 rfl) ?_
  refine lv_l2i hx hb dJ13_bitCount_95d88_56 rfl ?_
  refine lv_bipush (v := 127) hx hb dJ13_bitCount_95d88_57 (by decide) ?_
  refine lv_iand hx hb dJ13_bitCount_95d88_59 ?_
  exact END ((((((((((a1 - (((a1.toUInt64 >>> ((1 : Int32).toInt64.toUInt64 &&& Int64.toUInt64 63)).toInt64) &&& 6148914691236517205)) &&& 3689348814741910323) + ((((a1 - (((a1.toUInt64 >>> ((1 : Int32).toInt64.toUInt64 &&& Int64.toUInt64 63)).toInt64) &&& 6148914691236517205)).toUInt64 >>> ((2 : Int32).toInt64.toUInt64 &&& Int64.toUInt64 63)).toInt64) &&& 3689348814741910323)) + (((((a1 - (((a1.toUInt64 >>> ((1 : Int32).toInt64.toUInt64 &&& Int64.toUInt64 63)).toInt64) &&& 6148914691236517205)) &&& 3689348814741910323) + ((((a1 - (((a1.toUInt64 >>> ((1 : Int32).toInt64.toUInt64 &&& Int64.toUInt64 63)).toInt64) &&& 6148914691236517205)).toUInt64 >>> ((2 : Int32).toInt64.toUInt64 &&& Int64.toUInt64 63)).toInt64) &&& 3689348814741910323)).toUInt64 >>> ((4 : Int32).toInt64.toUInt64 &&& Int64.toUInt64 63)).toInt64)) &&& 1085102592571150095) + (((((((a1 - (((a1.toUInt64 >>> ((1 : Int32).toInt64.toUInt64 &&& Int64.toUInt64 63)).toInt64) &&& 6148914691236517205)) &&& 3689348814741910323) + ((((a1 - (((a1.toUInt64 >>> ((1 : Int32).toInt64.toUInt64 &&& Int64.toUInt64 63)).toInt64) &&& 6148914691236517205)).toUInt64 >>> ((2 : Int32).toInt64.toUInt64 &&& Int64.toUInt64 63)).toInt64) &&& 3689348814741910323)) + (((((a1 - (((a1.toUInt64 >>> ((1 : Int32).toInt64.toUInt64 &&& Int64.toUInt64 63)).toInt64) &&& 6148914691236517205)) &&& 3689348814741910323) + ((((a1 - (((a1.toUInt64 >>> ((1 : Int32).toInt64.toUInt64 &&& Int64.toUInt64 63)).toInt64) &&& 6148914691236517205)).toUInt64 >>> ((2 : Int32).toInt64.toUInt64 &&& Int64.toUInt64 63)).toInt64) &&& 3689348814741910323)).toUInt64 >>> ((4 : Int32).toInt64.toUInt64 &&& Int64.toUInt64 63)).toInt64)) &&& 1085102592571150095).toUInt64 >>> ((8 : Int32).toInt64.toUInt64 &&& Int64.toUInt64 63)).toInt64)) + ((((((((a1 - (((a1.toUInt64 >>> ((1 : Int32).toInt64.toUInt64 &&& Int64.toUInt64 63)).toInt64) &&& 6148914691236517205)) &&& 3689348814741910323) + ((((a1 - (((a1.toUInt64 >>> ((1 : Int32).toInt64.toUInt64 &&& Int64.toUInt64 63)).toInt64) &&& 6148914691236517205)).toUInt64 >>> ((2 : Int32).toInt64.toUInt64 &&& Int64.toUInt64 63)).toInt64) &&& 3689348814741910323)) + (((((a1 - (((a1.toUInt64 >>> ((1 : Int32).toInt64.toUInt64 &&& Int64.toUInt64 63)).toInt64) &&& 6148914691236517205)) &&& 3689348814741910323) + ((((a1 - (((a1.toUInt64 >>> ((1 : Int32).toInt64.toUInt64 &&& Int64.toUInt64 63)).toInt64) &&& 6148914691236517205)).toUInt64 >>> ((2 : Int32).toInt64.toUInt64 &&& Int64.toUInt64 63)).toInt64) &&& 3689348814741910323)).toUInt64 >>> ((4 : Int32).toInt64.toUInt64 &&& Int64.toUInt64 63)).toInt64)) &&& 1085102592571150095) + (((((((a1 - (((a1.toUInt64 >>> ((1 : Int32).toInt64.toUInt64 &&& Int64.toUInt64 63)).toInt64) &&& 6148914691236517205)) &&& 3689348814741910323) + ((((a1 - (((a1.toUInt64 >>> ((1 : Int32).toInt64.toUInt64 &&& Int64.toUInt64 63)).toInt64) &&& 6148914691236517205)).toUInt64 >>> ((2 : Int32).toInt64.toUInt64 &&& Int64.toUInt64 63)).toInt64) &&& 3689348814741910323)) + (((((a1 - (((a1.toUInt64 >>> ((1 : Int32).toInt64.toUInt64 &&& Int64.toUInt64 63)).toInt64) &&& 6148914691236517205)) &&& 3689348814741910323) + ((((a1 - (((a1.toUInt64 >>> ((1 : Int32).toInt64.toUInt64 &&& Int64.toUInt64 63)).toInt64) &&& 6148914691236517205)).toUInt64 >>> ((2 : Int32).toInt64.toUInt64 &&& Int64.toUInt64 63)).toInt64) &&& 3689348814741910323)).toUInt64 >>> ((4 : Int32).toInt64.toUInt64 &&& Int64.toUInt64 63)).toInt64)) &&& 1085102592571150095).toUInt64 >>> ((8 : Int32).toInt64.toUInt64 &&& Int64.toUInt64 63)).toInt64)).toUInt64 >>> ((16 : Int32).toInt64.toUInt64 &&& Int64.toUInt64 63)).toInt64)) + (((((((((a1 - (((a1.toUInt64 >>> ((1 : Int32).toInt64.toUInt64 &&& Int64.toUInt64 63)).toInt64) &&& 6148914691236517205)) &&& 3689348814741910323) + ((((a1 - (((a1.toUInt64 >>> ((1 : Int32).toInt64.toUInt64 &&& Int64.toUInt64 63)).toInt64) &&& 6148914691236517205)).toUInt64 >>> ((2 : Int32).toInt64.toUInt64 &&& Int64.toUInt64 63)).toInt64) &&& 3689348814741910323)) + (((((a1 - (((a1.toUInt64 >>> ((1 : Int32).toInt64.toUInt64 &&& Int64.toUInt64 63)).toInt64) &&& 6148914691236517205)) &&& 3689348814741910323) + ((((a1 - (((a1.toUInt64 >>> ((1 : Int32).toInt64.toUInt64 &&& Int64.toUInt64 63)).toInt64) &&& 6148914691236517205)).toUInt64 >>> ((2 : Int32).toInt64.toUInt64 &&& Int64.toUInt64 63)).toInt64) &&& 3689348814741910323)).toUInt64 >>> ((4 : Int32).toInt64.toUInt64 &&& Int64.toUInt64 63)).toInt64)) &&& 1085102592571150095) + (((((((a1 - (((a1.toUInt64 >>> ((1 : Int32).toInt64.toUInt64 &&& Int64.toUInt64 63)).toInt64) &&& 6148914691236517205)) &&& 3689348814741910323) + ((((a1 - (((a1.toUInt64 >>> ((1 : Int32).toInt64.toUInt64 &&& Int64.toUInt64 63)).toInt64) &&& 6148914691236517205)).toUInt64 >>> ((2 : Int32).toInt64.toUInt64 &&& Int64.toUInt64 63)).toInt64) &&& 3689348814741910323)) + (((((a1 - (((a1.toUInt64 >>> ((1 : Int32).toInt64.toUInt64 &&& Int64.toUInt64 63)).toInt64) &&& 6148914691236517205)) &&& 3689348814741910323) + ((((a1 - (((a1.toUInt64 >>> ((1 : Int32).toInt64.toUInt64 &&& Int64.toUInt64 63)).toInt64) &&& 6148914691236517205)).toUInt64 >>> ((2 : Int32).toInt64.toUInt64 &&& Int64.toUInt64 63)).toInt64) &&& 3689348814741910323)).toUInt64 >>> ((4 : Int32).toInt64.toUInt64 &&& Int64.toUInt64 63)).toInt64)) &&& 1085102592571150095).toUInt64 >>> ((8 : Int32).toInt64.toUInt64 &&& Int64.toUInt64 63)).toInt64)) + ((((((((a1 - (((a1.toUInt64 >>> ((1 : Int32).toInt64.toUInt64 &&& Int64.toUInt64 63)).toInt64) &&& 6148914691236517205)) &&& 3689348814741910323) + ((((a1 - (((a1.toUInt64 >>> ((1 : Int32).toInt64.toUInt64 &&& Int64.toUInt64 63)).toInt64) &&& 6148914691236517205)).toUInt64 >>> ((2 : Int32).toInt64.toUInt64 &&& Int64.toUInt64 63)).toInt64) &&& 3689348814741910323)) + (((((a1 - (((a1.toUInt64 >>> ((1 : Int32).toInt64.toUInt64 &&& Int64.toUInt64 63)).toInt64) &&& 6148914691236517205)) &&& 3689348814741910323) + ((((a1 - (((a1.toUInt64 >>> ((1 : Int32).toInt64.toUInt64 &&& Int64.toUInt64 63)).toInt64) &&& 6148914691236517205)).toUInt64 >>> ((2 : Int32).toInt64.toUInt64 &&& Int64.toUInt64 63)).toInt64) &&& 3689348814741910323)).toUInt64 >>> ((4 : Int32).toInt64.toUInt64 &&& Int64.toUInt64 63)).toInt64)) &&& 1085102592571150095) + (((((((a1 - (((a1.toUInt64 >>> ((1 : Int32).toInt64.toUInt64 &&& Int64.toUInt64 63)).toInt64) &&& 6148914691236517205)) &&& 3689348814741910323) + ((((a1 - (((a1.toUInt64 >>> ((1 : Int32).toInt64.toUInt64 &&& Int64.toUInt64 63)).toInt64) &&& 6148914691236517205)).toUInt64 >>> ((2 : Int32).toInt64.toUInt64 &&& Int64.toUInt64 63)).toInt64) &&& 3689348814741910323)) + (((((a1 - (((a1.toUInt64 >>> ((1 : Int32).toInt64.toUInt64 &&& Int64.toUInt64 63)).toInt64) &&& 6148914691236517205)) &&& 3689348814741910323) + ((((a1 - (((a1.toUInt64 >>> ((1 : Int32).toInt64.toUInt64 &&& Int64.toUInt64 63)).toInt64) &&& 6148914691236517205)).toUInt64 >>> ((2 : Int32).toInt64.toUInt64 &&& Int64.toUInt64 63)).toInt64) &&& 3689348814741910323)).toUInt64 >>> ((4 : Int32).toInt64.toUInt64 &&& Int64.toUInt64 63)).toInt64)) &&& 1085102592571150095).toUInt64 >>> ((8 : Int32).toInt64.toUInt64 &&& Int64.toUInt64 63)).toInt64)).toUInt64 >>> ((16 : Int32).toInt64.toUInt64 &&& Int64.toUInt64 63)).toInt64)).toUInt64 >>> ((32 : Int32).toInt64.toUInt64 &&& Int64.toUInt64 63)).toInt64)).toInt32) &&& 127) hT _ _ hP hD hS _ _ dJ13_bitCount_95d88_60
theorem dX1_contains_0 : decode cX1_contains 0 = .ok (.iload_n 1, 1) := by decide +kernel
theorem dX1_contains_1 : decode cX1_contains 1 = .ok (.ifCond .lt 35, 3) := by decide +kernel
theorem dX1_contains_4 : decode cX1_contains 4 = .ok (.iload_n 1, 1) := by decide +kernel
theorem dX1_contains_5 : decode cX1_contains 5 = .ok (.sipush 384, 3) := by decide +kernel
theorem dX1_contains_8 : decode cX1_contains 8 = .ok (.if_icmp .ge 28, 3) := by decide +kernel
theorem dX1_contains_11 : decode cX1_contains 11 = .ok (.aload_n 0, 1) := by decide +kernel
theorem dX1_contains_12 : decode cX1_contains 12 = .ok (.getfield 9, 3) := by decide +kernel
theorem dX1_contains_15 : decode cX1_contains 15 = .ok (.iload_n 1, 1) := by decide +kernel
theorem dX1_contains_16 : decode cX1_contains 16 = .ok (.bipush 64, 2) := by decide +kernel
theorem dX1_contains_18 : decode cX1_contains 18 = .ok (.idiv, 1) := by decide +kernel
theorem dX1_contains_19 : decode cX1_contains 19 = .ok (.laload, 1) := by decide +kernel
theorem dX1_contains_20 : decode cX1_contains 20 = .ok (.iload_n 1, 1) := by decide +kernel
theorem dX1_contains_21 : decode cX1_contains 21 = .ok (.bipush 64, 2) := by decide +kernel
theorem dX1_contains_23 : decode cX1_contains 23 = .ok (.irem, 1) := by decide +kernel
theorem dX1_contains_24 : decode cX1_contains 24 = .ok (.lushr, 1) := by decide +kernel
theorem dX1_contains_25 : decode cX1_contains 25 = .ok (.lconst 1, 1) := by decide +kernel
theorem dX1_contains_26 : decode cX1_contains 26 = .ok (.land, 1) := by decide +kernel
theorem dX1_contains_27 : decode cX1_contains 27 = .ok (.lconst 0, 1) := by decide +kernel
theorem dX1_contains_28 : decode cX1_contains 28 = .ok (.lcmp, 1) := by decide +kernel
theorem dX1_contains_29 : decode cX1_contains 29 = .ok (.ifCond .eq 7, 3) := by decide +kernel
theorem dX1_contains_32 : decode cX1_contains 32 = .ok (.iconst 1, 1) := by decide +kernel
theorem dX1_contains_33 : decode cX1_contains 33 = .ok (.goto 4, 3) := by decide +kernel
theorem dX1_contains_36 : decode cX1_contains 36 = .ok (.iconst 0, 1) := by decide +kernel
theorem dX1_contains_37 : decode cX1_contains 37 = .ok (.ireturn, 1) := by decide +kernel
def wW_k_X1_contains (ty : Nat → ClassId) (h0 : Nat) (h1 : Nat) (z9_0 : Nat → Int64) : va_W := [(h0, .inr (3, [.ref h1])), (h1, .inl (ty 1, 6, .inr (.inl z9_0)))]
def vs_k_X1_contains : List Cond := .code yX1_contains cX1_contains 2 (some .boolean) :: ([.fieldLink RX1 9 "AnswerFold$AtomSet" "words" "[J"] ++ (u_ws RX1 TX1 1))
theorem iv_k_X1_contains_X1 : ∀ w ∈ u_ws RX1 TX1 1, w ∈ vs_k_X1_contains := (fun _ h => List.mem_cons_of_mem _ (List.mem_append_right _ (h)))
set_option maxHeartbeats 4000000 in
set_option maxRecDepth 100000 in
theorem k_X1_contains (l : Launch) (D : va_G) (ty : Nat → ClassId) (td mi sz : Nat) (h0 : Nat) (h1 : Nat) (w0 : Nat → Int64) (a1 : Int32) (TT : r_k_X1_contains) (hTT : TT = m_k_X1_contains w0 a1) : Met l yX1_contains vs_k_X1_contains { frames := 0, cells := 0, slots := 0, locals := 0 } (va_Pc [.ref h0, .int a1] (wq_P D ty td mi (wW_k_X1_contains ty h0 h1 w0) sz)) (va_Qi (fun (r : Int32) (u : va_W) => (r = TT ∧ (TT = 0 ∨ TT = 1) ∧ (u = (wW_k_X1_contains ty h0 h1 w0)))) (wq_B D (va_A (wW_k_X1_contains ty h0 h1 w0) sz)) (va_A (wW_k_X1_contains ty h0 h1 w0) sz)) 0 0 (va_A (wW_k_X1_contains ty h0 h1 w0) sz) := by
  refine Met.ofW (cc := cX1_contains) (maxL := 2) (ret := (some .boolean)) (by decide) rfl ?_
  intro p e s m args below meth c s₁ B hml hv
  obtain ⟨rfl, hsz, hP, hK, hD0, hE⟩ := hv
  have hx := B.exec
  have hb := B.bytes
  have hr := B.returns
  have hts := atoms_spec (ws := vs_k_X1_contains) B.pre
  have hown : s.vm.findClass RX1 = some m.cls := findClass_of_methodNamed B.named
  have hlocks := B.notSynchronized
  subst hsz
  have hD := hD0.self (sz := s.heap.size)
  generalize hAe : va_A (wW_k_X1_contains ty h0 h1 w0) s.heap.size = A at hD hE ⊢
  have hA : ∀ q : Nat, s.heap.size ≤ q → A q := fun q h => by rw [← hAe]; exact Or.inr h
  have hS : va_S A s.heap s.heap [] := va_S.rf
  have hP : va_P D vwCl (wW_k_X1_contains ty h0 h1 w0) s.heap := hP
  have hl := lv_entry ([.ref h0, .int a1]) (n := 2) (Nat.le_of_ble_eq_true rfl)
  rw [lg_entry_eq]
  generalize (lg_sl ([.ref h0, .int a1]) ++ List.replicate (2 - (lg_sl ([.ref h0, .int a1])).length) Slot.unset).toArray = ls at hl ⊢
  have hl : lv_has ls 2 [(0, .ref h0), (1, .int a1)] := hl
  have END : ∀ (r : Int32), TT = r → (r = 0 ∨ r = 1) → ∀ (H : Heap) (locs : List Loc), va_P D vwCl (wW_k_X1_contains ty h0 h1 w0) H → va_D A (wW_k_X1_contains ty h0 h1 w0) → va_S A s.heap H locs → ∀ (ls : Array Slot) (pc : Nat), decode cX1_contains pc = .ok (.ireturn, 1) → W p l e (headSpec vs_k_X1_contains { frames := 0, cells := 0, slots := 0, locals := 0 }).room s m ([.ref h0, .int a1] : List Value).toArray below meth c H locs 0 0 (MQ below (va_Qi (fun (r : Int32) (u : va_W) => (r = TT ∧ (TT = 0 ∨ TT = 1) ∧ (u = (wW_k_X1_contains ty h0 h1 w0)))) (wq_B D A) A) ([.ref h0, .int a1] : List Value).toArray s 0 0 A) (F0 m pc ls [.int r]) := by
    intro r hT hb01 H locs hP hD hS ls pc hd
    have hM : TT = r := hT
    exact W.zret (v := r) hx hb hr (wz_nar hb01) (fun t ht hW => ⟨⟨r, (wW_k_X1_contains ty h0 h1 w0), rfl, ⟨(by rw [hM]), (by rw [hM]; exact hb01), rfl⟩, wq_B.of ht hP hD⟩, hS.F ht⟩) hS.2.2 hd
  have hT := hTT
  rw [m_k_X1_contains] at hT
  refine lv_iload_n hx hb dX1_contains_0 rfl (lv_at hl 1 rfl) ?_
  refine lv_if_lt (tgt := 36) hx hb dX1_contains_1 (by decide) (fun c_1 => ?_) (fun c_1 => ?_)
  · rw [if_pos c_1] at hT
    refine lv_iconst (v := 0) hx hb dX1_contains_36 (by decide) ?_
    exact END 0 hT (by decide) _ _ hP hD hS _ _ dX1_contains_37
  · rw [if_neg c_1] at hT
    refine lv_iload_n hx hb dX1_contains_4 rfl (lv_at hl 1 rfl) ?_
    refine lv_sipush (v := 384) hx hb dX1_contains_5 (by decide) ?_
    refine lv_icmp_ge (tgt := 36) hx hb dX1_contains_8 (by decide) (fun c_2 => ?_) (fun c_2 => ?_)
    · rw [if_pos c_2] at hT
      refine lv_iconst (v := 0) hx hb dX1_contains_36 (by decide) ?_
      exact END 0 hT (by decide) _ _ hP hD hS _ _ dX1_contains_37
    · rw [if_neg c_2] at hT
      refine lv_aload_n hx hb dX1_contains_11 rfl (lv_at hl 0 rfl) ?_
      refine va_get (D := D) (ci := 3) (v := .ref h1) (C := RX1) (T := TX1) (N := 1) hx hb hts iv_k_X1_contains_X1 hown hK hP 0 rfl rfl 0 (by decide) (hts (.fieldLink RX1 9 "AnswerFold$AtomSet" "words" "[J") (by decide +kernel)) (fun _ h9 => h9) rfl dX1_contains_12 ?_
      refine lv_iload_n hx hb dX1_contains_15 rfl (lv_at hl 1 rfl) ?_
      refine lv_bipush (v := 64) hx hb dX1_contains_16 (by decide) ?_
      refine lv_idiv hx hb dX1_contains_18 (by decide) ?_
      refine va_lald (D := D) hx hb hK hP 1 1 rfl rfl (wi_div (m := 384) (wi_lo c_1) (wi_hi c_2 (by decide)) rfl (by decide)) dX1_contains_19 ?_
      refine lv_iload_n hx hb dX1_contains_20 rfl (lv_at hl 1 rfl) ?_
      refine lv_bipush (v := 64) hx hb dX1_contains_21 (by decide) ?_
      refine lv_irem hx hb dX1_contains_23 (by decide) ?_
      refine lv_lushr hx hb dX1_contains_24 rfl ?_
      refine lv_lconst (v := 1) hx hb dX1_contains_25 (by decide) ?_
      refine lv_land hx hb dX1_contains_26 ?_
      refine lv_lconst (v := 0) hx hb dX1_contains_27 (by decide) ?_
      refine W.lcmp hx hb dX1_contains_28 ?_
      refine lv_if_eq (tgt := 36) hx hb dX1_contains_29 (by decide) (fun c_3 => ?_) (fun c_3 => ?_)
      · rw [if_pos c_3] at hT
        refine lv_iconst (v := 0) hx hb dX1_contains_36 (by decide) ?_
        exact END 0 hT (by decide) _ _ hP hD hS _ _ dX1_contains_37
      · rw [if_neg c_3] at hT
        refine lv_iconst (v := 1) hx hb dX1_contains_32 (by decide) ?_
        refine lv_goto (tgt := 37) hx hb dX1_contains_33 (by decide) ?_
        exact END 1 hT (by decide) _ _ hP hD hS _ _ dX1_contains_37
theorem dX1_add_0 : decode cX1_add 0 = .ok (.iload_n 1, 1) := by decide +kernel
theorem dX1_add_1 : decode cX1_add 1 = .ok (.ifCond .lt 10, 3) := by decide +kernel
theorem dX1_add_4 : decode cX1_add 4 = .ok (.iload_n 1, 1) := by decide +kernel
theorem dX1_add_5 : decode cX1_add 5 = .ok (.sipush 384, 3) := by decide +kernel
theorem dX1_add_8 : decode cX1_add 8 = .ok (.if_icmp .lt 5, 3) := by decide +kernel
theorem dX1_add_11 : decode cX1_add 11 = .ok (.iconst 0, 1) := by decide +kernel
theorem dX1_add_12 : decode cX1_add 12 = .ok (.ireturn, 1) := by decide +kernel
theorem dX1_add_13 : decode cX1_add 13 = .ok (.aload_n 0, 1) := by decide +kernel
theorem dX1_add_14 : decode cX1_add 14 = .ok (.getfield 9, 3) := by decide +kernel
theorem dX1_add_17 : decode cX1_add 17 = .ok (.iload_n 1, 1) := by decide +kernel
theorem dX1_add_18 : decode cX1_add 18 = .ok (.bipush 64, 2) := by decide +kernel
theorem dX1_add_20 : decode cX1_add 20 = .ok (.idiv, 1) := by decide +kernel
theorem dX1_add_21 : decode cX1_add 21 = .ok (.laload, 1) := by decide +kernel
theorem dX1_add_22 : decode cX1_add 22 = .ok (.lstore_n 2, 1) := by decide +kernel
theorem dX1_add_23 : decode cX1_add 23 = .ok (.aload_n 0, 1) := by decide +kernel
theorem dX1_add_24 : decode cX1_add 24 = .ok (.getfield 9, 3) := by decide +kernel
theorem dX1_add_27 : decode cX1_add 27 = .ok (.iload_n 1, 1) := by decide +kernel
theorem dX1_add_28 : decode cX1_add 28 = .ok (.bipush 64, 2) := by decide +kernel
theorem dX1_add_30 : decode cX1_add 30 = .ok (.idiv, 1) := by decide +kernel
theorem dX1_add_31 : decode cX1_add 31 = .ok (.lload_n 2, 1) := by decide +kernel
theorem dX1_add_32 : decode cX1_add 32 = .ok (.lconst 1, 1) := by decide +kernel
theorem dX1_add_33 : decode cX1_add 33 = .ok (.iload_n 1, 1) := by decide +kernel
theorem dX1_add_34 : decode cX1_add 34 = .ok (.bipush 64, 2) := by decide +kernel
theorem dX1_add_36 : decode cX1_add 36 = .ok (.irem, 1) := by decide +kernel
theorem dX1_add_37 : decode cX1_add 37 = .ok (.lshl, 1) := by decide +kernel
theorem dX1_add_38 : decode cX1_add 38 = .ok (.lor, 1) := by decide +kernel
theorem dX1_add_39 : decode cX1_add 39 = .ok (.lastore, 1) := by decide +kernel
theorem dX1_add_40 : decode cX1_add 40 = .ok (.aload_n 0, 1) := by decide +kernel
theorem dX1_add_41 : decode cX1_add 41 = .ok (.getfield 9, 3) := by decide +kernel
theorem dX1_add_44 : decode cX1_add 44 = .ok (.iload_n 1, 1) := by decide +kernel
theorem dX1_add_45 : decode cX1_add 45 = .ok (.bipush 64, 2) := by decide +kernel
theorem dX1_add_47 : decode cX1_add 47 = .ok (.idiv, 1) := by decide +kernel
theorem dX1_add_48 : decode cX1_add 48 = .ok (.laload, 1) := by decide +kernel
theorem dX1_add_49 : decode cX1_add 49 = .ok (.lload_n 2, 1) := by decide +kernel
theorem dX1_add_50 : decode cX1_add 50 = .ok (.lcmp, 1) := by decide +kernel
theorem dX1_add_51 : decode cX1_add 51 = .ok (.ifCond .eq 7, 3) := by decide +kernel
theorem dX1_add_54 : decode cX1_add 54 = .ok (.iconst 1, 1) := by decide +kernel
theorem dX1_add_55 : decode cX1_add 55 = .ok (.goto 4, 3) := by decide +kernel
theorem dX1_add_58 : decode cX1_add 58 = .ok (.iconst 0, 1) := by decide +kernel
theorem dX1_add_59 : decode cX1_add 59 = .ok (.ireturn, 1) := by decide +kernel
def wW_k_X1_add (ty : Nat → ClassId) (h0 : Nat) (h1 : Nat) (z9_0 : Nat → Int64) : va_W := [(h0, .inr (3, [.ref h1])), (h1, .inl (ty 1, 6, .inr (.inl z9_0)))]
def vs_k_X1_add : List Cond := .code yX1_add cX1_add 4 (some .boolean) :: ([.fieldLink RX1 9 "AnswerFold$AtomSet" "words" "[J"] ++ (u_ws RX1 TX1 1))
theorem iv_k_X1_add_X1 : ∀ w ∈ u_ws RX1 TX1 1, w ∈ vs_k_X1_add := (fun _ h => List.mem_cons_of_mem _ (List.mem_append_right _ (h)))
set_option maxHeartbeats 4000000 in
set_option maxRecDepth 100000 in
theorem k_X1_add (l : Launch) (D : va_G) (ty : Nat → ClassId) (td mi sz : Nat) (h0 : Nat) (h1 : Nat) (w0 : Nat → Int64) (a1 : Int32) (TT : r_k_X1_add) (hTT : TT = m_k_X1_add w0 a1) : Met l yX1_add vs_k_X1_add { frames := 0, cells := 0, slots := 0, locals := 0 } (va_Pc [.ref h0, .int a1] (wq_P D ty td mi (wW_k_X1_add ty h0 h1 w0) sz)) (va_Qi (fun (r : Int32) (u : va_W) => (r = TT.1 ∧ (TT.1 = 0 ∨ TT.1 = 1) ∧ (u = (wW_k_X1_add ty h0 h1 TT.2)))) (wq_B D (va_A (wW_k_X1_add ty h0 h1 w0) sz)) (va_A (wW_k_X1_add ty h0 h1 w0) sz)) 0 0 (va_A (wW_k_X1_add ty h0 h1 w0) sz) := by
  refine Met.ofW (cc := cX1_add) (maxL := 4) (ret := (some .boolean)) (by decide) rfl ?_
  intro p e s m args below meth c s₁ B hml hv
  obtain ⟨rfl, hsz, hP, hK, hD0, hE⟩ := hv
  have hx := B.exec
  have hb := B.bytes
  have hr := B.returns
  have hts := atoms_spec (ws := vs_k_X1_add) B.pre
  have hown : s.vm.findClass RX1 = some m.cls := findClass_of_methodNamed B.named
  have hlocks := B.notSynchronized
  subst hsz
  have hD := hD0.self (sz := s.heap.size)
  generalize hAe : va_A (wW_k_X1_add ty h0 h1 w0) s.heap.size = A at hD hE ⊢
  have hA : ∀ q : Nat, s.heap.size ≤ q → A q := fun q h => by rw [← hAe]; exact Or.inr h
  have hS : va_S A s.heap s.heap [] := va_S.rf
  have hP : va_P D vwCl (wW_k_X1_add ty h0 h1 w0) s.heap := hP
  have hl := lv_entry ([.ref h0, .int a1]) (n := 4) (Nat.le_of_ble_eq_true rfl)
  rw [lg_entry_eq]
  generalize (lg_sl ([.ref h0, .int a1]) ++ List.replicate (4 - (lg_sl ([.ref h0, .int a1])).length) Slot.unset).toArray = ls at hl ⊢
  have hl : lv_has ls 4 [(0, .ref h0), (1, .int a1)] := hl
  have END : ∀ (r : Int32) (w9_0 : Nat → Int64), TT = (r, w9_0) → (r = 0 ∨ r = 1) → ∀ (H : Heap) (locs : List Loc), va_P D vwCl (wW_k_X1_add ty h0 h1 w9_0) H → va_D A (wW_k_X1_add ty h0 h1 w9_0) → va_S A s.heap H locs → ∀ (ls : Array Slot) (pc : Nat), decode cX1_add pc = .ok (.ireturn, 1) → W p l e (headSpec vs_k_X1_add { frames := 0, cells := 0, slots := 0, locals := 0 }).room s m ([.ref h0, .int a1] : List Value).toArray below meth c H locs 0 0 (MQ below (va_Qi (fun (r : Int32) (u : va_W) => (r = TT.1 ∧ (TT.1 = 0 ∨ TT.1 = 1) ∧ (u = (wW_k_X1_add ty h0 h1 TT.2)))) (wq_B D A) A) ([.ref h0, .int a1] : List Value).toArray s 0 0 A) (F0 m pc ls [.int r]) := by
    intro r w9_0 hT hb01 H locs hP hD hS ls pc hd
    have hM : TT = (r, w9_0) := hT
    exact W.zret (v := r) hx hb hr (wz_nar hb01) (fun t ht hW => ⟨⟨r, (wW_k_X1_add ty h0 h1 w9_0), rfl, ⟨(by rw [hM]), (by rw [hM]; exact hb01), (by rw [hM])⟩, wq_B.of ht hP hD⟩, hS.F ht⟩) hS.2.2 hd
  have hT := hTT
  rw [m_k_X1_add] at hT
  refine lv_iload_n hx hb dX1_add_0 rfl (lv_at hl 1 rfl) ?_
  refine lv_if_lt (tgt := 11) hx hb dX1_add_1 (by decide) (fun c_1 => ?_) (fun c_1 => ?_)
  · rw [if_pos c_1] at hT
    refine lv_iconst (v := 0) hx hb dX1_add_11 (by decide) ?_
    exact END 0 w0 hT (by decide) _ _ hP hD hS _ _ dX1_add_12
  · rw [if_neg c_1] at hT
    refine lv_iload_n hx hb dX1_add_4 rfl (lv_at hl 1 rfl) ?_
    refine lv_sipush (v := 384) hx hb dX1_add_5 (by decide) ?_
    refine lv_icmp_lt (tgt := 13) hx hb dX1_add_8 (by decide) (fun c_2 => ?_) (fun c_2 => ?_)
    · rw [if_pos c_2] at hT
      refine lv_aload_n hx hb dX1_add_13 rfl (lv_at hl 0 rfl) ?_
      refine va_get (D := D) (ci := 3) (v := .ref h1) (C := RX1) (T := TX1) (N := 1) hx hb hts iv_k_X1_add_X1 hown hK hP 0 rfl rfl 0 (by decide) (hts (.fieldLink RX1 9 "AnswerFold$AtomSet" "words" "[J") (by decide +kernel)) (fun _ h9 => h9) rfl dX1_add_14 ?_
      refine lv_iload_n hx hb dX1_add_17 rfl (lv_at hl 1 rfl) ?_
      refine lv_bipush (v := 64) hx hb dX1_add_18 (by decide) ?_
      refine lv_idiv hx hb dX1_add_20 (by decide) ?_
      refine va_lald (D := D) hx hb hK hP 1 1 rfl rfl (wi_div (m := 384) (wi_lo c_1) (wi_hi (Int32.not_le.mpr c_2) (by decide)) rfl (by decide)) dX1_add_21 ?_
      refine lv_lstore_n (lv' := [(2, .long (w0 (a1 / 64).toNatClampNeg)), (0, .ref h0), (1, .int a1)]) hx hb dX1_add_22 rfl hl (by decide) rfl (fun ls hl => ?_)
      refine lv_aload_n hx hb dX1_add_23 rfl (lv_at hl 1 rfl) ?_
      refine va_get (D := D) (ci := 3) (v := .ref h1) (C := RX1) (T := TX1) (N := 1) hx hb hts iv_k_X1_add_X1 hown hK hP 0 rfl rfl 0 (by decide) (hts (.fieldLink RX1 9 "AnswerFold$AtomSet" "words" "[J") (by decide +kernel)) (fun _ h9 => h9) rfl dX1_add_24 ?_
      refine lv_iload_n hx hb dX1_add_27 rfl (lv_at hl 2 rfl) ?_
      refine lv_bipush (v := 64) hx hb dX1_add_28 (by decide) ?_
      refine lv_idiv hx hb dX1_add_30 (by decide) ?_
      refine lv_lload_n hx hb dX1_add_31 rfl (lv_at hl 0 rfl) ?_
      refine lv_lconst (v := 1) hx hb dX1_add_32 (by decide) ?_
      refine lv_iload_n hx hb dX1_add_33 rfl (lv_at hl 2 rfl) ?_
      refine lv_bipush (v := 64) hx hb dX1_add_34 (by decide) ?_
      refine lv_irem hx hb dX1_add_36 (by decide) ?_
      refine lv_lshl hx hb dX1_add_37 rfl ?_
      refine lv_lor hx hb dX1_add_38 ?_
      refine va_last (D := D) hx hb hK hP hD hS 1 1 rfl rfl (wi_div (m := 384) (wi_lo c_1) (wi_hi (Int32.not_le.mpr c_2) (by decide)) rfl (by decide)) dX1_add_39 (fun H locs hP hD hS => ?_)
      have hP : va_P D vwCl (wW_k_X1_add ty h0 h1 (vp_updL w0 ((a1 / 64).toNatClampNeg) ((w0 (a1 / 64).toNatClampNeg) ||| ((1 : Int64) <<< ((a1 - a1 / 64 * 64).toInt64 &&& 63))))) H := hP
      have hD : va_D A (wW_k_X1_add ty h0 h1 (vp_updL w0 ((a1 / 64).toNatClampNeg) ((w0 (a1 / 64).toNatClampNeg) ||| ((1 : Int64) <<< ((a1 - a1 / 64 * 64).toInt64 &&& 63))))) := hD
      refine lv_aload_n hx hb dX1_add_40 rfl (lv_at hl 1 rfl) ?_
      refine va_get (D := D) (ci := 3) (v := .ref h1) (C := RX1) (T := TX1) (N := 1) hx hb hts iv_k_X1_add_X1 hown hK hP 0 rfl rfl 0 (by decide) (hts (.fieldLink RX1 9 "AnswerFold$AtomSet" "words" "[J") (by decide +kernel)) (fun _ h9 => h9) rfl dX1_add_41 ?_
      refine lv_iload_n hx hb dX1_add_44 rfl (lv_at hl 2 rfl) ?_
      refine lv_bipush (v := 64) hx hb dX1_add_45 (by decide) ?_
      refine lv_idiv hx hb dX1_add_47 (by decide) ?_
      refine va_lald (D := D) hx hb hK hP 1 1 rfl rfl (wi_div (m := 384) (wi_lo c_1) (wi_hi (Int32.not_le.mpr c_2) (by decide)) rfl (by decide)) dX1_add_48 ?_
      refine lv_lload_n hx hb dX1_add_49 rfl (lv_at hl 0 rfl) ?_
      refine W.lcmp hx hb dX1_add_50 ?_
      refine lv_if_eq (tgt := 58) hx hb dX1_add_51 (by decide) (fun c_3 => ?_) (fun c_3 => ?_)
      · rw [if_pos c_3] at hT
        refine lv_iconst (v := 0) hx hb dX1_add_58 (by decide) ?_
        exact END 0 (vp_updL w0 ((a1 / 64).toNatClampNeg) ((w0 (a1 / 64).toNatClampNeg) ||| ((1 : Int64) <<< ((a1 - a1 / 64 * 64).toInt64 &&& 63)))) hT (by decide) _ _ hP hD hS _ _ dX1_add_59
      · rw [if_neg c_3] at hT
        refine lv_iconst (v := 1) hx hb dX1_add_54 (by decide) ?_
        refine lv_goto (tgt := 59) hx hb dX1_add_55 (by decide) ?_
        exact END 1 (vp_updL w0 ((a1 / 64).toNatClampNeg) ((w0 (a1 / 64).toNatClampNeg) ||| ((1 : Int64) <<< ((a1 - a1 / 64 * 64).toInt64 &&& 63)))) hT (by decide) _ _ hP hD hS _ _ dX1_add_59
    · rw [if_neg c_2] at hT
      refine lv_iconst (v := 0) hx hb dX1_add_11 (by decide) ?_
      exact END 0 w0 hT (by decide) _ _ hP hD hS _ _ dX1_add_12
theorem dX1_remove_0 : decode cX1_remove 0 = .ok (.iload_n 1, 1) := by decide +kernel
theorem dX1_remove_1 : decode cX1_remove 1 = .ok (.ifCond .lt 32, 3) := by decide +kernel
theorem dX1_remove_4 : decode cX1_remove 4 = .ok (.iload_n 1, 1) := by decide +kernel
theorem dX1_remove_5 : decode cX1_remove 5 = .ok (.sipush 384, 3) := by decide +kernel
theorem dX1_remove_8 : decode cX1_remove 8 = .ok (.if_icmp .ge 25, 3) := by decide +kernel
theorem dX1_remove_11 : decode cX1_remove 11 = .ok (.aload_n 0, 1) := by decide +kernel
theorem dX1_remove_12 : decode cX1_remove 12 = .ok (.getfield 9, 3) := by decide +kernel
theorem dX1_remove_15 : decode cX1_remove 15 = .ok (.iload_n 1, 1) := by decide +kernel
theorem dX1_remove_16 : decode cX1_remove 16 = .ok (.bipush 64, 2) := by decide +kernel
theorem dX1_remove_18 : decode cX1_remove 18 = .ok (.idiv, 1) := by decide +kernel
theorem dX1_remove_19 : decode cX1_remove 19 = .ok (.dup2, 1) := by decide +kernel
theorem dX1_remove_20 : decode cX1_remove 20 = .ok (.laload, 1) := by decide +kernel
theorem dX1_remove_21 : decode cX1_remove 21 = .ok (.lconst 1, 1) := by decide +kernel
theorem dX1_remove_22 : decode cX1_remove 22 = .ok (.iload_n 1, 1) := by decide +kernel
theorem dX1_remove_23 : decode cX1_remove 23 = .ok (.bipush 64, 2) := by decide +kernel
theorem dX1_remove_25 : decode cX1_remove 25 = .ok (.irem, 1) := by decide +kernel
theorem dX1_remove_26 : decode cX1_remove 26 = .ok (.lshl, 1) := by decide +kernel
theorem dX1_remove_27 : decode cX1_remove 27 = .ok (.ldc2_w 15, 3) := by decide +kernel
theorem dX1_remove_30 : decode cX1_remove 30 = .ok (.lxor, 1) := by decide +kernel
theorem dX1_remove_31 : decode cX1_remove 31 = .ok (.land, 1) := by decide +kernel
theorem dX1_remove_32 : decode cX1_remove 32 = .ok (.lastore, 1) := by decide +kernel
theorem dX1_remove_33 : decode cX1_remove 33 = .ok (.return_, 1) := by decide +kernel
def wW_k_X1_remove (ty : Nat → ClassId) (h0 : Nat) (h1 : Nat) (z9_0 : Nat → Int64) : va_W := [(h0, .inr (3, [.ref h1])), (h1, .inl (ty 1, 6, .inr (.inl z9_0)))]
def vs_k_X1_remove : List Cond := .code yX1_remove cX1_remove 2 none :: ([.fieldLink RX1 9 "AnswerFold$AtomSet" "words" "[J", .constantLong RX1 15 (-1)] ++ (u_ws RX1 TX1 1))
theorem iv_k_X1_remove_X1 : ∀ w ∈ u_ws RX1 TX1 1, w ∈ vs_k_X1_remove := (fun _ h => List.mem_cons_of_mem _ (List.mem_append_right _ (h)))
set_option maxHeartbeats 4000000 in
set_option maxRecDepth 100000 in
theorem k_X1_remove (l : Launch) (D : va_G) (ty : Nat → ClassId) (td mi sz : Nat) (h0 : Nat) (h1 : Nat) (w0 : Nat → Int64) (a1 : Int32) (TT : r_k_X1_remove) (hTT : TT = m_k_X1_remove w0 a1) : Met l yX1_remove vs_k_X1_remove { frames := 0, cells := 0, slots := 0, locals := 0 } (va_Pc [.ref h0, .int a1] (wq_P D ty td mi (wW_k_X1_remove ty h0 h1 w0) sz)) (va_Qv (fun u : va_W => ((u = (wW_k_X1_remove ty h0 h1 TT)))) (wq_B D (va_A (wW_k_X1_remove ty h0 h1 w0) sz)) (va_A (wW_k_X1_remove ty h0 h1 w0) sz)) 0 0 (va_A (wW_k_X1_remove ty h0 h1 w0) sz) := by
  refine Met.ofW (cc := cX1_remove) (maxL := 2) (ret := none) (by decide) rfl ?_
  intro p e s m args below meth c s₁ B hml hv
  obtain ⟨rfl, hsz, hP, hK, hD0, hE⟩ := hv
  have hx := B.exec
  have hb := B.bytes
  have hr := B.returns
  have hts := atoms_spec (ws := vs_k_X1_remove) B.pre
  have hown : s.vm.findClass RX1 = some m.cls := findClass_of_methodNamed B.named
  have hlocks := B.notSynchronized
  subst hsz
  have hD := hD0.self (sz := s.heap.size)
  generalize hAe : va_A (wW_k_X1_remove ty h0 h1 w0) s.heap.size = A at hD hE ⊢
  have hA : ∀ q : Nat, s.heap.size ≤ q → A q := fun q h => by rw [← hAe]; exact Or.inr h
  have hS : va_S A s.heap s.heap [] := va_S.rf
  have hP : va_P D vwCl (wW_k_X1_remove ty h0 h1 w0) s.heap := hP
  have hl := lv_entry ([.ref h0, .int a1]) (n := 2) (Nat.le_of_ble_eq_true rfl)
  rw [lg_entry_eq]
  generalize (lg_sl ([.ref h0, .int a1]) ++ List.replicate (2 - (lg_sl ([.ref h0, .int a1])).length) Slot.unset).toArray = ls at hl ⊢
  have hl : lv_has ls 2 [(0, .ref h0), (1, .int a1)] := hl
  have END : ∀ (w9_0 : Nat → Int64), TT = w9_0 → ∀ (H : Heap) (locs : List Loc), va_P D vwCl (wW_k_X1_remove ty h0 h1 w9_0) H → va_D A (wW_k_X1_remove ty h0 h1 w9_0) → va_S A s.heap H locs → ∀ (ls : Array Slot) (pc : Nat), decode cX1_remove pc = .ok (.return_, 1) → W p l e (headSpec vs_k_X1_remove { frames := 0, cells := 0, slots := 0, locals := 0 }).room s m ([.ref h0, .int a1] : List Value).toArray below meth c H locs 0 0 (MQ below (va_Qv (fun u : va_W => ((u = (wW_k_X1_remove ty h0 h1 TT)))) (wq_B D A) A) ([.ref h0, .int a1] : List Value).toArray s 0 0 A) (F0 m pc ls []) := by
    intro w9_0 hT H locs hP hD hS ls pc hd
    have hM : TT = w9_0 := hT
    exact W.vret hx hb hr (fun t ht hW => ⟨⟨(wW_k_X1_remove ty h0 h1 w9_0), rfl, (by rw [hM]), wq_B.of ht hP hD⟩, hS.F ht⟩) hS.2.2 hd
  have hT := hTT
  rw [m_k_X1_remove] at hT
  refine lv_iload_n hx hb dX1_remove_0 rfl (lv_at hl 1 rfl) ?_
  refine lv_if_lt (tgt := 33) hx hb dX1_remove_1 (by decide) (fun c_1 => ?_) (fun c_1 => ?_)
  · rw [if_pos c_1] at hT
    exact END w0 hT _ _ hP hD hS _ _ dX1_remove_33
  · rw [if_neg c_1] at hT
    refine lv_iload_n hx hb dX1_remove_4 rfl (lv_at hl 1 rfl) ?_
    refine lv_sipush (v := 384) hx hb dX1_remove_5 (by decide) ?_
    refine lv_icmp_ge (tgt := 33) hx hb dX1_remove_8 (by decide) (fun c_2 => ?_) (fun c_2 => ?_)
    · rw [if_pos c_2] at hT
      exact END w0 hT _ _ hP hD hS _ _ dX1_remove_33
    · rw [if_neg c_2] at hT
      refine lv_aload_n hx hb dX1_remove_11 rfl (lv_at hl 0 rfl) ?_
      refine va_get (D := D) (ci := 3) (v := .ref h1) (C := RX1) (T := TX1) (N := 1) hx hb hts iv_k_X1_remove_X1 hown hK hP 0 rfl rfl 0 (by decide) (hts (.fieldLink RX1 9 "AnswerFold$AtomSet" "words" "[J") (by decide +kernel)) (fun _ h9 => h9) rfl dX1_remove_12 ?_
      refine lv_iload_n hx hb dX1_remove_15 rfl (lv_at hl 1 rfl) ?_
      refine lv_bipush (v := 64) hx hb dX1_remove_16 (by decide) ?_
      refine lv_idiv hx hb dX1_remove_18 (by decide) ?_
      refine lv_dup2_11 hx hb dX1_remove_19 rfl rfl ?_
      refine va_lald (D := D) hx hb hK hP 1 1 rfl rfl (wi_div (m := 384) (wi_lo c_1) (wi_hi c_2 (by decide)) rfl (by decide)) dX1_remove_20 ?_
      refine lv_lconst (v := 1) hx hb dX1_remove_21 (by decide) ?_
      refine lv_iload_n hx hb dX1_remove_22 rfl (lv_at hl 1 rfl) ?_
      refine lv_bipush (v := 64) hx hb dX1_remove_23 (by decide) ?_
      refine lv_irem hx hb dX1_remove_25 (by decide) ?_
      refine lv_lshl hx hb dX1_remove_26 rfl ?_
      refine lv_ldc2 (v := (-1)) hx hb hown (hts (.constantLong RX1 15 (-1)) (by decide +kernel)) dX1_remove_27 ?_
      refine lv_lxor hx hb dX1_remove_30 ?_
      refine lv_land hx hb dX1_remove_31 ?_
      refine va_last (D := D) hx hb hK hP hD hS 1 1 rfl rfl (wi_div (m := 384) (wi_lo c_1) (wi_hi c_2 (by decide)) rfl (by decide)) dX1_remove_32 (fun H locs hP hD hS => ?_)
      have hP : va_P D vwCl (wW_k_X1_remove ty h0 h1 (vp_updL w0 ((a1 / 64).toNatClampNeg) ((w0 (a1 / 64).toNatClampNeg) &&& (((1 : Int64) <<< ((a1 - a1 / 64 * 64).toInt64 &&& 63)) ^^^ (-1))))) H := hP
      have hD : va_D A (wW_k_X1_remove ty h0 h1 (vp_updL w0 ((a1 / 64).toNatClampNeg) ((w0 (a1 / 64).toNatClampNeg) &&& (((1 : Int64) <<< ((a1 - a1 / 64 * 64).toInt64 &&& 63)) ^^^ (-1))))) := hD
      exact END (vp_updL w0 ((a1 / 64).toNatClampNeg) ((w0 (a1 / 64).toNatClampNeg) &&& (((1 : Int64) <<< ((a1 - a1 / 64 * 64).toInt64 &&& 63)) ^^^ (-1)))) hT _ _ hP hD hS _ _ dX1_remove_33
theorem dX1_countOf_0 : decode cX1_countOf 0 = .ok (.iload_n 1, 1) := by decide +kernel
theorem dX1_countOf_1 : decode cX1_countOf 1 = .ok (.ifCond .lt 21, 3) := by decide +kernel
theorem dX1_countOf_4 : decode cX1_countOf 4 = .ok (.iload_n 1, 1) := by decide +kernel
theorem dX1_countOf_5 : decode cX1_countOf 5 = .ok (.bipush 6, 2) := by decide +kernel
theorem dX1_countOf_7 : decode cX1_countOf 7 = .ok (.if_icmp .ge 15, 3) := by decide +kernel
theorem dX1_countOf_10 : decode cX1_countOf 10 = .ok (.aload_n 0, 1) := by decide +kernel
theorem dX1_countOf_11 : decode cX1_countOf 11 = .ok (.getfield 9, 3) := by decide +kernel
theorem dX1_countOf_14 : decode cX1_countOf 14 = .ok (.iload_n 1, 1) := by decide +kernel
theorem dX1_countOf_15 : decode cX1_countOf 15 = .ok (.laload, 1) := by decide +kernel
theorem dX1_countOf_16 : decode cX1_countOf 16 = .ok (.invokestatic 17, 3) := by decide +kernel
theorem dX1_countOf_19 : decode cX1_countOf 19 = .ok (.goto 4, 3) := by decide +kernel
theorem dX1_countOf_22 : decode cX1_countOf 22 = .ok (.iconst 0, 1) := by decide +kernel
theorem dX1_countOf_23 : decode cX1_countOf 23 = .ok (.ireturn, 1) := by decide +kernel
def wW_k_X1_countOf (ty : Nat → ClassId) (h0 : Nat) (h1 : Nat) (z9_0 : Nat → Int64) : va_W := [(h0, .inr (3, [.ref h1])), (h1, .inl (ty 1, 6, .inr (.inl z9_0)))]
def vs_k_X1_countOf : List Cond := .code yX1_countOf cX1_countOf 2 (some .int) :: ([.fieldLink RX1 9 "AnswerFold$AtomSet" "words" "[J", .methodLink RX1 17 yJ13_bitCount_95d88, .static yJ13_bitCount_95d88, .initialized RJ13] ++ (u_ws RX1 TX1 1 ++ (vs_k_J13_bitCount_95d88)))
theorem iv_k_X1_countOf_X1 : ∀ w ∈ u_ws RX1 TX1 1, w ∈ vs_k_X1_countOf := (fun _ h => List.mem_cons_of_mem _ (List.mem_append_right _ (List.mem_append_left _ h)))
set_option maxRecDepth 20000 in
theorem gv_k_X1_countOf_0 : GoodIn vs_k_X1_countOf (va_wsS RX1 17 yJ13_bitCount_95d88 vs_k_J13_bitCount_95d88) := goodIn_app (goodIn_sub (by decide +kernel) (by decide +kernel)) (goodIn_sub (fun _ h => List.mem_cons_of_mem _ (List.mem_append_right _ (List.mem_append_right _ (h)))) (by decide +kernel))
set_option maxHeartbeats 4000000 in
set_option maxRecDepth 100000 in
theorem k_X1_countOf (l : Launch) (D : va_G) (ty : Nat → ClassId) (td mi sz : Nat) (h0 : Nat) (h1 : Nat) (w0 : Nat → Int64) (a1 : Int32) (TT : r_k_X1_countOf) (hTT : TT = m_k_X1_countOf w0 a1) : Met l yX1_countOf vs_k_X1_countOf { frames := 1, cells := 0, slots := 0, locals := 21 } (va_Pc [.ref h0, .int a1] (wq_P D ty td mi (wW_k_X1_countOf ty h0 h1 w0) sz)) (va_Qi (fun (r : Int32) (u : va_W) => (r = TT ∧ (u = (wW_k_X1_countOf ty h0 h1 w0)))) (wq_B D (va_A (wW_k_X1_countOf ty h0 h1 w0) sz)) (va_A (wW_k_X1_countOf ty h0 h1 w0) sz)) 0 0 (va_A (wW_k_X1_countOf ty h0 h1 w0) sz) := by
  refine Met.ofW (cc := cX1_countOf) (maxL := 2) (ret := (some .int)) (by decide) rfl ?_
  intro p e s m args below meth c s₁ B hml hv
  obtain ⟨rfl, hsz, hP, hK, hD0, hE⟩ := hv
  have hx := B.exec
  have hb := B.bytes
  have hr := B.returns
  have hts := atoms_spec (ws := vs_k_X1_countOf) B.pre
  have hown : s.vm.findClass RX1 = some m.cls := findClass_of_methodNamed B.named
  have hlocks := B.notSynchronized
  subst hsz
  have hD := hD0.self (sz := s.heap.size)
  generalize hAe : va_A (wW_k_X1_countOf ty h0 h1 w0) s.heap.size = A at hD hE ⊢
  have hA : ∀ q : Nat, s.heap.size ≤ q → A q := fun q h => by rw [← hAe]; exact Or.inr h
  have hS : va_S A s.heap s.heap [] := va_S.rf
  have hP : va_P D vwCl (wW_k_X1_countOf ty h0 h1 w0) s.heap := hP
  have hl := lv_entry ([.ref h0, .int a1]) (n := 2) (Nat.le_of_ble_eq_true rfl)
  rw [lg_entry_eq]
  generalize (lg_sl ([.ref h0, .int a1]) ++ List.replicate (2 - (lg_sl ([.ref h0, .int a1])).length) Slot.unset).toArray = ls at hl ⊢
  have hl : lv_has ls 2 [(0, .ref h0), (1, .int a1)] := hl
  have END : ∀ (r : Int32), TT = r → ∀ (H : Heap) (locs : List Loc), va_P D vwCl (wW_k_X1_countOf ty h0 h1 w0) H → va_D A (wW_k_X1_countOf ty h0 h1 w0) → va_S A s.heap H locs → ∀ (ls : Array Slot) (pc : Nat), decode cX1_countOf pc = .ok (.ireturn, 1) → W p l e (headSpec vs_k_X1_countOf { frames := 1, cells := 0, slots := 0, locals := 21 }).room s m ([.ref h0, .int a1] : List Value).toArray below meth c H locs 0 0 (MQ below (va_Qi (fun (r : Int32) (u : va_W) => (r = TT ∧ (u = (wW_k_X1_countOf ty h0 h1 w0)))) (wq_B D A) A) ([.ref h0, .int a1] : List Value).toArray s 0 0 A) (F0 m pc ls [.int r]) := by
    intro r hT H locs hP hD hS ls pc hd
    have hM : TT = r := hT
    exact W.iret (v := r) hx hb hr (fun t ht hW => ⟨⟨r, (wW_k_X1_countOf ty h0 h1 w0), rfl, ⟨(by rw [hM]), rfl⟩, wq_B.of ht hP hD⟩, hS.F ht⟩) hS.2.2 hd
  have hT := hTT
  rw [m_k_X1_countOf] at hT
  refine lv_iload_n hx hb dX1_countOf_0 rfl (lv_at hl 1 rfl) ?_
  refine lv_if_lt (tgt := 22) hx hb dX1_countOf_1 (by decide) (fun c_1 => ?_) (fun c_1 => ?_)
  · rw [if_pos c_1] at hT
    refine lv_iconst (v := 0) hx hb dX1_countOf_22 (by decide) ?_
    exact END 0 hT _ _ hP hD hS _ _ dX1_countOf_23
  · rw [if_neg c_1] at hT
    refine lv_iload_n hx hb dX1_countOf_4 rfl (lv_at hl 1 rfl) ?_
    refine lv_bipush (v := 6) hx hb dX1_countOf_5 (by decide) ?_
    refine lv_icmp_ge (tgt := 22) hx hb dX1_countOf_7 (by decide) (fun c_2 => ?_) (fun c_2 => ?_)
    · rw [if_pos c_2] at hT
      refine lv_iconst (v := 0) hx hb dX1_countOf_22 (by decide) ?_
      exact END 0 hT _ _ hP hD hS _ _ dX1_countOf_23
    · rw [if_neg c_2] at hT
      refine lv_aload_n hx hb dX1_countOf_10 rfl (lv_at hl 0 rfl) ?_
      refine va_get (D := D) (ci := 3) (v := .ref h1) (C := RX1) (T := TX1) (N := 1) hx hb hts iv_k_X1_countOf_X1 hown hK hP 0 rfl rfl 0 (by decide) (hts (.fieldLink RX1 9 "AnswerFold$AtomSet" "words" "[J") (by decide +kernel)) (fun _ h9 => h9) rfl dX1_countOf_11 ?_
      refine lv_iload_n hx hb dX1_countOf_14 rfl (lv_at hl 1 rfl) ?_
      refine va_lald (D := D) hx hb hK hP 1 1 rfl rfl (wi_in (wi_lo c_1) (wi_hi c_2 (by decide))) dX1_countOf_15 ?_
      obtain ⟨t_16, ht_16⟩ : ∃ t, t = m_k_J13_bitCount_95d88 (w0 a1.toNatClampNeg) := ⟨_, rfl⟩
      rw [lE_eq ht_16] at hT
      refine wq_iW (wc := []) (va_runS (As := [.long (w0 a1.toNatClampNeg)]) (rest := []) ⟨hx, hb, hml, hown, hts⟩ (k_J13_bitCount_95d88 l D ty td mi s.heap.size (w0 a1.toNatClampNeg) t_16 ht_16) (va_cwS 1 hts gv_k_X1_countOf_0 rfl rfl rfl (by decide +kernel) ⟨(Nat.le_of_ble_eq_true rfl), (Nat.le_of_ble_eq_true rfl)⟩) (wm_preS hP hD hK hE hS hA [] rfl) rfl rfl hl.1 rfl (lv_room (Nat.le_of_ble_eq_true rfl)) dX1_countOf_16 ⟨(Nat.le_of_ble_eq_true rfl), (Nat.le_of_ble_eq_true rfl)⟩) hS hA hP hD [] rfl (fun _ _ h => by rcases h with ⟨-, rfl⟩; rfl) (fun r u H locs hw hP hD hS => ?_)
      obtain ⟨hr0, rfl⟩ := hw
      subst r
      have hP : va_P D vwCl (wW_k_X1_countOf ty h0 h1 w0) H := hP
      have hD : va_D A (wW_k_X1_countOf ty h0 h1 w0) := hD
      refine W.widen (k := 0) (n := 0) (Nat.le_of_ble_eq_true rfl) (Nat.le_of_ble_eq_true rfl) ?_
      refine lv_goto (tgt := 23) hx hb dX1_countOf_19 (by decide) ?_
      exact END t_16 hT _ _ hP hD hS _ _ dX1_countOf_23
theorem dX1_count_0 : decode cX1_count 0 = .ok (.iconst 0, 1) := by decide +kernel
theorem dX1_count_1 : decode cX1_count 1 = .ok (.istore_n 1, 1) := by decide +kernel
theorem dX1_count_2 : decode cX1_count 2 = .ok (.iconst 0, 1) := by decide +kernel
theorem dX1_count_3 : decode cX1_count 3 = .ok (.istore_n 2, 1) := by decide +kernel
theorem dX1_count_4 : decode cX1_count 4 = .ok (.iload_n 2, 1) := by decide +kernel
theorem dX1_count_5 : decode cX1_count 5 = .ok (.bipush 6, 2) := by decide +kernel
theorem dX1_count_7 : decode cX1_count 7 = .ok (.if_icmp .ge 17, 3) := by decide +kernel
theorem dX1_count_10 : decode cX1_count 10 = .ok (.iload_n 1, 1) := by decide +kernel
theorem dX1_count_11 : decode cX1_count 11 = .ok (.aload_n 0, 1) := by decide +kernel
theorem dX1_count_12 : decode cX1_count 12 = .ok (.iload_n 2, 1) := by decide +kernel
theorem dX1_count_13 : decode cX1_count 13 = .ok (.invokevirtual 23, 3) := by decide +kernel
theorem dX1_count_16 : decode cX1_count 16 = .ok (.iadd, 1) := by decide +kernel
theorem dX1_count_17 : decode cX1_count 17 = .ok (.istore_n 1, 1) := by decide +kernel
theorem dX1_count_18 : decode cX1_count 18 = .ok (.iinc 2 1, 3) := by decide +kernel
theorem dX1_count_21 : decode cX1_count 21 = .ok (.goto (-17), 3) := by decide +kernel
theorem dX1_count_24 : decode cX1_count 24 = .ok (.iload_n 1, 1) := by decide +kernel
theorem dX1_count_25 : decode cX1_count 25 = .ok (.ireturn, 1) := by decide +kernel
def wW_k_X1_count (ty : Nat → ClassId) (h0 : Nat) (h1 : Nat) (z9_0 : Nat → Int64) : va_W := [(h0, .inr (3, [.ref h1])), (h1, .inl (ty 1, 6, .inr (.inl z9_0)))]
def vs_k_X1_count : List Cond := .code yX1_count cX1_count 3 (some .int) :: ([.methodLink RX1 23 yX1_countOf, .instanceMethod yX1_countOf, .selects RX1 yX1_countOf yX1_countOf, .initialized RX1] ++ (vs_k_X1_countOf))
set_option maxRecDepth 20000 in
theorem gv_k_X1_count_0 : GoodIn vs_k_X1_count (wsV RX1 23 RX1 yX1_countOf vs_k_X1_countOf) := goodIn_app (goodIn_sub (by decide +kernel) (by decide +kernel)) (goodIn_sub (fun _ h => List.mem_cons_of_mem _ (List.mem_append_right _ (h))) (by decide +kernel))
set_option maxHeartbeats 4000000 in
set_option maxRecDepth 100000 in
theorem k_X1_count (l : Launch) (D : va_G) (ty : Nat → ClassId) (td mi sz : Nat) (h0 : Nat) (h1 : Nat) (w0 : Nat → Int64) (TT : r_k_X1_count) (hTT : TT = m_k_X1_count w0) : Met l yX1_count vs_k_X1_count { frames := 2, cells := 0, slots := 0, locals := 42 } (va_Pc [.ref h0] (wq_P D ty td mi (wW_k_X1_count ty h0 h1 w0) sz)) (va_Qi (fun (r : Int32) (u : va_W) => (r = TT ∧ (u = (wW_k_X1_count ty h0 h1 w0)))) (wq_B D (va_A (wW_k_X1_count ty h0 h1 w0) sz)) (va_A (wW_k_X1_count ty h0 h1 w0) sz)) 0 0 (va_A (wW_k_X1_count ty h0 h1 w0) sz) := by
  refine Met.ofW (cc := cX1_count) (maxL := 3) (ret := (some .int)) (by decide) rfl ?_
  intro p e s m args below meth c s₁ B hml hv
  obtain ⟨rfl, hsz, hP, hK, hD0, hE⟩ := hv
  have hx := B.exec
  have hb := B.bytes
  have hr := B.returns
  have hts := atoms_spec (ws := vs_k_X1_count) B.pre
  have hown : s.vm.findClass RX1 = some m.cls := findClass_of_methodNamed B.named
  have hlocks := B.notSynchronized
  subst hsz
  have hD := hD0.self (sz := s.heap.size)
  generalize hAe : va_A (wW_k_X1_count ty h0 h1 w0) s.heap.size = A at hD hE ⊢
  have hA : ∀ q : Nat, s.heap.size ≤ q → A q := fun q h => by rw [← hAe]; exact Or.inr h
  have hS : va_S A s.heap s.heap [] := va_S.rf
  have hP : va_P D vwCl (wW_k_X1_count ty h0 h1 w0) s.heap := hP
  have hl := lv_entry ([.ref h0]) (n := 3) (Nat.le_of_ble_eq_true rfl)
  rw [lg_entry_eq]
  generalize (lg_sl ([.ref h0]) ++ List.replicate (3 - (lg_sl ([.ref h0])).length) Slot.unset).toArray = ls at hl ⊢
  have hl : lv_has ls 3 [(0, .ref h0)] := hl
  have END : ∀ (r : Int32), TT = r → ∀ (H : Heap) (locs : List Loc), va_P D vwCl (wW_k_X1_count ty h0 h1 w0) H → va_D A (wW_k_X1_count ty h0 h1 w0) → va_S A s.heap H locs → ∀ (ls : Array Slot) (pc : Nat), decode cX1_count pc = .ok (.ireturn, 1) → W p l e (headSpec vs_k_X1_count { frames := 2, cells := 0, slots := 0, locals := 42 }).room s m ([.ref h0] : List Value).toArray below meth c H locs 0 0 (MQ below (va_Qi (fun (r : Int32) (u : va_W) => (r = TT ∧ (u = (wW_k_X1_count ty h0 h1 w0)))) (wq_B D A) A) ([.ref h0] : List Value).toArray s 0 0 A) (F0 m pc ls [.int r]) := by
    intro r hT H locs hP hD hS ls pc hd
    have hM : TT = r := hT
    exact W.iret (v := r) hx hb hr (fun t ht hW => ⟨⟨r, (wW_k_X1_count ty h0 h1 w0), rfl, ⟨(by rw [hM]), rfl⟩, wq_B.of ht hP hD⟩, hS.F ht⟩) hS.2.2 hd
  have hT := hTT
  rw [m_k_X1_count] at hT
  refine lv_iconst (v := 0) hx hb dX1_count_0 (by decide) ?_
  refine lv_istore_n (lv' := [(1, .int 0), (0, .ref h0)]) hx hb dX1_count_1 rfl hl (by decide) rfl (fun ls hl => ?_)
  refine lv_iconst (v := 0) hx hb dX1_count_2 (by decide) ?_
  refine lv_istore_n (lv' := [(2, .int 0), (1, .int 0), (0, .ref h0)]) hx hb dX1_count_3 rfl hl (by decide) rfl (fun ls hl => ?_)
  have L_4 : ∀ (n_4 : Nat) (v1_4 : Int32) (v2_4 : Int32), (2147483648 - v2_4.toInt).toNat < n_4 → TT = m_k_X1_count_4 w0 n_4 v1_4 v2_4 → 0 ≤ v2_4.toInt → ∀ (H : Heap) (locs : List Loc), va_P D vwCl (wW_k_X1_count ty h0 h1 w0) H → va_D A (wW_k_X1_count ty h0 h1 w0) → va_S A s.heap H locs → ∀ ls : Array Slot, lv_has ls 3 [(0, .ref h0), (1, .int v1_4), (2, .int v2_4)] → W p l e (headSpec vs_k_X1_count { frames := 2, cells := 0, slots := 0, locals := 42 }).room s m ([.ref h0] : List Value).toArray below meth c H locs 0 0 (MQ below (va_Qi (fun (r : Int32) (u : va_W) => (r = TT ∧ (u = (wW_k_X1_count ty h0 h1 w0)))) (wq_B D A) A) ([.ref h0] : List Value).toArray s 0 0 A) (F0 m 4 ls []) := by
    intro n_4
    induction n_4 with
    | zero => intro v1_4 v2_4 hu; exact absurd hu (Nat.not_lt_zero _)
    | succ n_4 ih_4 =>
      intro v1_4 v2_4 hu_4 hT hn_4 H locs hP hD hS ls hl
      rw [m_k_X1_count_4_succ, m_k_X1_count_4s] at hT
      refine lv_iload_n hx hb dX1_count_4 rfl (lv_at hl 2 rfl) ?_
      refine lv_bipush (v := 6) hx hb dX1_count_5 (by decide) ?_
      refine lv_icmp_ge (tgt := 24) hx hb dX1_count_7 (by decide) (fun c_1 => ?_) (fun c_1 => ?_)
      · rw [if_pos c_1] at hT
        refine lv_iload_n hx hb dX1_count_24 rfl (lv_at hl 1 rfl) ?_
        exact END v1_4 hT _ _ hP hD hS _ _ dX1_count_25
      · rw [if_neg c_1] at hT
        refine lv_iload_n hx hb dX1_count_10 rfl (lv_at hl 1 rfl) ?_
        refine lv_aload_n hx hb dX1_count_11 rfl (lv_at hl 0 rfl) ?_
        refine lv_iload_n hx hb dX1_count_12 rfl (lv_at hl 2 rfl) ?_
        obtain ⟨t_13, ht_13⟩ : ∃ t, t = m_k_X1_countOf w0 v2_4 := ⟨_, rfl⟩
        rw [lE_eq ht_13] at hT
        refine wq_iW (wc := (wW_k_X1_countOf ty h0 h1 w0)) (va_runV (As := [.int v2_4]) (rest := [.int v1_4]) ⟨hx, hb, hml, hown, hts⟩ (k_X1_countOf l D ty td mi H.size h0 h1 w0 v2_4 t_13 ht_13) (cwV 1 hts gv_k_X1_count_0 rfl rfl rfl (by decide +kernel) ⟨(Nat.le_of_ble_eq_true rfl), (Nat.le_of_ble_eq_true rfl)⟩) (wm_V (wm_preS hP hD hK hE hS hA [true, true] rfl) (va_recv (q0 := 0) (ci := 3) hK hP rfl rfl)) rfl rfl hl.1 rfl (lv_room (Nat.le_of_ble_eq_true rfl)) dX1_count_13 ⟨(Nat.le_of_ble_eq_true rfl), (Nat.le_of_ble_eq_true rfl)⟩) hS hA hP hD [true, true] rfl (fun _ _ h => by rcases h with ⟨-, rfl⟩; rfl) (fun r u H locs hw hP hD hS => ?_)
        obtain ⟨hr0, rfl⟩ := hw
        subst r
        have hP : va_P D vwCl (wW_k_X1_count ty h0 h1 w0) H := hP
        have hD : va_D A (wW_k_X1_count ty h0 h1 w0) := hD
        refine W.widen (k := 0) (n := 0) (Nat.le_of_ble_eq_true rfl) (Nat.le_of_ble_eq_true rfl) ?_
        refine lv_iadd hx hb dX1_count_16 ?_
        refine lv_istore_n (lv' := [(1, .int (v1_4 + t_13)), (0, .ref h0), (2, .int v2_4)]) hx hb dX1_count_17 rfl hl (by decide) rfl (fun ls hl => ?_)
        refine lv_iinc (v := v2_4 + 1) (lv' := [(2, .int (v2_4 + 1)), (1, .int (v1_4 + t_13)), (0, .ref h0)]) hx hb dX1_count_18 hl (k := 2) rfl (by rfl) (by decide) rfl (fun ls hl => ?_)
        refine lv_goto (tgt := 4) hx hb dX1_count_21 (by decide) ?_
        exact ih_4 (v1_4 + t_13) (v2_4 + 1) (wi_up hu_4 (Int32.not_le.mp c_1)) hT (wi_inc hn_4 (Int32.not_le.mp c_1)) _ _ hP hD hS _ (lv_sub hl [2, 1, 0] rfl)
  exact L_4 wF 0 0 (wF_up 0) hT (by decide) _ _ hP hD hS _ (lv_sub hl [2, 1, 0] rfl)
theorem dX1_clear_0 : decode cX1_clear 0 = .ok (.iconst 0, 1) := by decide +kernel
theorem dX1_clear_1 : decode cX1_clear 1 = .ok (.istore_n 1, 1) := by decide +kernel
theorem dX1_clear_2 : decode cX1_clear 2 = .ok (.iload_n 1, 1) := by decide +kernel
theorem dX1_clear_3 : decode cX1_clear 3 = .ok (.bipush 6, 2) := by decide +kernel
theorem dX1_clear_5 : decode cX1_clear 5 = .ok (.if_icmp .ge 16, 3) := by decide +kernel
theorem dX1_clear_8 : decode cX1_clear 8 = .ok (.aload_n 0, 1) := by decide +kernel
theorem dX1_clear_9 : decode cX1_clear 9 = .ok (.getfield 9, 3) := by decide +kernel
theorem dX1_clear_12 : decode cX1_clear 12 = .ok (.iload_n 1, 1) := by decide +kernel
theorem dX1_clear_13 : decode cX1_clear 13 = .ok (.lconst 0, 1) := by decide +kernel
theorem dX1_clear_14 : decode cX1_clear 14 = .ok (.lastore, 1) := by decide +kernel
theorem dX1_clear_15 : decode cX1_clear 15 = .ok (.iinc 1 1, 3) := by decide +kernel
theorem dX1_clear_18 : decode cX1_clear 18 = .ok (.goto (-16), 3) := by decide +kernel
theorem dX1_clear_21 : decode cX1_clear 21 = .ok (.return_, 1) := by decide +kernel
def wW_k_X1_clear (ty : Nat → ClassId) (h0 : Nat) (h1 : Nat) (z9_0 : Nat → Int64) : va_W := [(h0, .inr (3, [.ref h1])), (h1, .inl (ty 1, 6, .inr (.inl z9_0)))]
def vs_k_X1_clear : List Cond := .code yX1_clear cX1_clear 2 none :: ([.fieldLink RX1 9 "AnswerFold$AtomSet" "words" "[J"] ++ (u_ws RX1 TX1 1))
theorem iv_k_X1_clear_X1 : ∀ w ∈ u_ws RX1 TX1 1, w ∈ vs_k_X1_clear := (fun _ h => List.mem_cons_of_mem _ (List.mem_append_right _ (h)))
set_option maxHeartbeats 4000000 in
set_option maxRecDepth 100000 in
theorem k_X1_clear (l : Launch) (D : va_G) (ty : Nat → ClassId) (td mi sz : Nat) (h0 : Nat) (h1 : Nat) (w0 : Nat → Int64) (TT : r_k_X1_clear) (hTT : TT = m_k_X1_clear w0) : Met l yX1_clear vs_k_X1_clear { frames := 0, cells := 0, slots := 0, locals := 0 } (va_Pc [.ref h0] (wq_P D ty td mi (wW_k_X1_clear ty h0 h1 w0) sz)) (va_Qv (fun u : va_W => ((u = (wW_k_X1_clear ty h0 h1 TT)))) (wq_B D (va_A (wW_k_X1_clear ty h0 h1 w0) sz)) (va_A (wW_k_X1_clear ty h0 h1 w0) sz)) 0 0 (va_A (wW_k_X1_clear ty h0 h1 w0) sz) := by
  refine Met.ofW (cc := cX1_clear) (maxL := 2) (ret := none) (by decide) rfl ?_
  intro p e s m args below meth c s₁ B hml hv
  obtain ⟨rfl, hsz, hP, hK, hD0, hE⟩ := hv
  have hx := B.exec
  have hb := B.bytes
  have hr := B.returns
  have hts := atoms_spec (ws := vs_k_X1_clear) B.pre
  have hown : s.vm.findClass RX1 = some m.cls := findClass_of_methodNamed B.named
  have hlocks := B.notSynchronized
  subst hsz
  have hD := hD0.self (sz := s.heap.size)
  generalize hAe : va_A (wW_k_X1_clear ty h0 h1 w0) s.heap.size = A at hD hE ⊢
  have hA : ∀ q : Nat, s.heap.size ≤ q → A q := fun q h => by rw [← hAe]; exact Or.inr h
  have hS : va_S A s.heap s.heap [] := va_S.rf
  have hP : va_P D vwCl (wW_k_X1_clear ty h0 h1 w0) s.heap := hP
  have hl := lv_entry ([.ref h0]) (n := 2) (Nat.le_of_ble_eq_true rfl)
  rw [lg_entry_eq]
  generalize (lg_sl ([.ref h0]) ++ List.replicate (2 - (lg_sl ([.ref h0])).length) Slot.unset).toArray = ls at hl ⊢
  have hl : lv_has ls 2 [(0, .ref h0)] := hl
  have END : ∀ (w9_0 : Nat → Int64), TT = w9_0 → ∀ (H : Heap) (locs : List Loc), va_P D vwCl (wW_k_X1_clear ty h0 h1 w9_0) H → va_D A (wW_k_X1_clear ty h0 h1 w9_0) → va_S A s.heap H locs → ∀ (ls : Array Slot) (pc : Nat), decode cX1_clear pc = .ok (.return_, 1) → W p l e (headSpec vs_k_X1_clear { frames := 0, cells := 0, slots := 0, locals := 0 }).room s m ([.ref h0] : List Value).toArray below meth c H locs 0 0 (MQ below (va_Qv (fun u : va_W => ((u = (wW_k_X1_clear ty h0 h1 TT)))) (wq_B D A) A) ([.ref h0] : List Value).toArray s 0 0 A) (F0 m pc ls []) := by
    intro w9_0 hT H locs hP hD hS ls pc hd
    have hM : TT = w9_0 := hT
    exact W.vret hx hb hr (fun t ht hW => ⟨⟨(wW_k_X1_clear ty h0 h1 w9_0), rfl, (by rw [hM]), wq_B.of ht hP hD⟩, hS.F ht⟩) hS.2.2 hd
  have hT := hTT
  rw [m_k_X1_clear] at hT
  refine lv_iconst (v := 0) hx hb dX1_clear_0 (by decide) ?_
  refine lv_istore_n (lv' := [(1, .int 0), (0, .ref h0)]) hx hb dX1_clear_1 rfl hl (by decide) rfl (fun ls hl => ?_)
  have L_2 : ∀ (n_2 : Nat) (v1_2 : Int32) (h1_f_2 : Nat → Int64), (2147483648 - v1_2.toInt).toNat < n_2 → TT = m_k_X1_clear_2 n_2 v1_2 h1_f_2 → 0 ≤ v1_2.toInt → ∀ (H : Heap) (locs : List Loc), va_P D vwCl (wW_k_X1_clear ty h0 h1 h1_f_2) H → va_D A (wW_k_X1_clear ty h0 h1 h1_f_2) → va_S A s.heap H locs → ∀ ls : Array Slot, lv_has ls 2 [(0, .ref h0), (1, .int v1_2)] → W p l e (headSpec vs_k_X1_clear { frames := 0, cells := 0, slots := 0, locals := 0 }).room s m ([.ref h0] : List Value).toArray below meth c H locs 0 0 (MQ below (va_Qv (fun u : va_W => ((u = (wW_k_X1_clear ty h0 h1 TT)))) (wq_B D A) A) ([.ref h0] : List Value).toArray s 0 0 A) (F0 m 2 ls []) := by
    intro n_2
    induction n_2 with
    | zero => intro v1_2 h1_f_2 hu; exact absurd hu (Nat.not_lt_zero _)
    | succ n_2 ih_2 =>
      intro v1_2 h1_f_2 hu_2 hT hn_2 H locs hP hD hS ls hl
      rw [m_k_X1_clear_2_succ, m_k_X1_clear_2s] at hT
      refine lv_iload_n hx hb dX1_clear_2 rfl (lv_at hl 1 rfl) ?_
      refine lv_bipush (v := 6) hx hb dX1_clear_3 (by decide) ?_
      refine lv_icmp_ge (tgt := 21) hx hb dX1_clear_5 (by decide) (fun c_1 => ?_) (fun c_1 => ?_)
      · rw [if_pos c_1] at hT
        exact END h1_f_2 hT _ _ hP hD hS _ _ dX1_clear_21
      · rw [if_neg c_1] at hT
        refine lv_aload_n hx hb dX1_clear_8 rfl (lv_at hl 0 rfl) ?_
        refine va_get (D := D) (ci := 3) (v := .ref h1) (C := RX1) (T := TX1) (N := 1) hx hb hts iv_k_X1_clear_X1 hown hK hP 0 rfl rfl 0 (by decide) (hts (.fieldLink RX1 9 "AnswerFold$AtomSet" "words" "[J") (by decide +kernel)) (fun _ h9 => h9) rfl dX1_clear_9 ?_
        refine lv_iload_n hx hb dX1_clear_12 rfl (lv_at hl 1 rfl) ?_
        refine lv_lconst (v := 0) hx hb dX1_clear_13 (by decide) ?_
        refine va_last (D := D) hx hb hK hP hD hS 1 1 rfl rfl (wi_in hn_2 (wi_hi c_1 (by decide))) dX1_clear_14 (fun H locs hP hD hS => ?_)
        have hP : va_P D vwCl (wW_k_X1_clear ty h0 h1 (vp_updL h1_f_2 v1_2.toNatClampNeg (0 : Int64))) H := hP
        have hD : va_D A (wW_k_X1_clear ty h0 h1 (vp_updL h1_f_2 v1_2.toNatClampNeg (0 : Int64))) := hD
        refine lv_iinc (v := v1_2 + 1) (lv' := [(1, .int (v1_2 + 1)), (0, .ref h0)]) hx hb dX1_clear_15 hl (k := 1) rfl (by rfl) (by decide) rfl (fun ls hl => ?_)
        refine lv_goto (tgt := 2) hx hb dX1_clear_18 (by decide) ?_
        exact ih_2 (v1_2 + 1) (vp_updL h1_f_2 v1_2.toNatClampNeg (0 : Int64)) (wi_up hu_2 (Int32.not_le.mp c_1)) hT (wi_inc hn_2 (Int32.not_le.mp c_1)) _ _ hP hD hS _ (lv_sub hl [1, 0] rfl)
  exact L_2 wF 0 w0 (wF_up 0) hT (by decide) _ _ hP hD hS _ (lv_sub hl [1, 0] rfl)
theorem dX2_valueOf_0 : decode cX2_valueOf 0 = .ok (.iload_n 1, 1) := by decide +kernel
theorem dX2_valueOf_1 : decode cX2_valueOf 1 = .ok (.tableswitch 59 1 4 #[31, 38, 45, 52], 31) := by decide +kernel
theorem dX2_valueOf_32 : decode cX2_valueOf 32 = .ok (.aload_n 0, 1) := by decide +kernel
theorem dX2_valueOf_33 : decode cX2_valueOf 33 = .ok (.getfield 9, 3) := by decide +kernel
theorem dX2_valueOf_36 : decode cX2_valueOf 36 = .ok (.iload_n 2, 1) := by decide +kernel
theorem dX2_valueOf_37 : decode cX2_valueOf 37 = .ok (.iadd, 1) := by decide +kernel
theorem dX2_valueOf_38 : decode cX2_valueOf 38 = .ok (.ireturn, 1) := by decide +kernel
theorem dX2_valueOf_39 : decode cX2_valueOf 39 = .ok (.aload_n 0, 1) := by decide +kernel
theorem dX2_valueOf_40 : decode cX2_valueOf 40 = .ok (.getfield 15, 3) := by decide +kernel
theorem dX2_valueOf_43 : decode cX2_valueOf 43 = .ok (.iload_n 2, 1) := by decide +kernel
theorem dX2_valueOf_44 : decode cX2_valueOf 44 = .ok (.iadd, 1) := by decide +kernel
theorem dX2_valueOf_45 : decode cX2_valueOf 45 = .ok (.ireturn, 1) := by decide +kernel
theorem dX2_valueOf_46 : decode cX2_valueOf 46 = .ok (.aload_n 0, 1) := by decide +kernel
theorem dX2_valueOf_47 : decode cX2_valueOf 47 = .ok (.getfield 18, 3) := by decide +kernel
theorem dX2_valueOf_50 : decode cX2_valueOf 50 = .ok (.iload_n 2, 1) := by decide +kernel
theorem dX2_valueOf_51 : decode cX2_valueOf 51 = .ok (.iadd, 1) := by decide +kernel
theorem dX2_valueOf_52 : decode cX2_valueOf 52 = .ok (.ireturn, 1) := by decide +kernel
theorem dX2_valueOf_53 : decode cX2_valueOf 53 = .ok (.aload_n 0, 1) := by decide +kernel
theorem dX2_valueOf_54 : decode cX2_valueOf 54 = .ok (.getfield 21, 3) := by decide +kernel
theorem dX2_valueOf_57 : decode cX2_valueOf 57 = .ok (.iload_n 2, 1) := by decide +kernel
theorem dX2_valueOf_58 : decode cX2_valueOf 58 = .ok (.iadd, 1) := by decide +kernel
theorem dX2_valueOf_59 : decode cX2_valueOf 59 = .ok (.ireturn, 1) := by decide +kernel
theorem dX2_valueOf_60 : decode cX2_valueOf 60 = .ok (.iload_n 2, 1) := by decide +kernel
theorem dX2_valueOf_61 : decode cX2_valueOf 61 = .ok (.ireturn, 1) := by decide +kernel
def wW_k_X2_valueOf (ty : Nat → ClassId) (X : Nat → Nat) (z9_0 : Int32) (z9_1 : Int32) (z9_2 : Int32) (z9_3 : Int32) : va_W := [((X 9), .inr (4, [.int z9_0, .int z9_1, .int z9_2, .int z9_3]))]
def vs_k_X2_valueOf : List Cond := .code yX2_valueOf cX2_valueOf 3 (some .int) :: ([.fieldLink RX2 9 "AnswerFold$Binding" "first" "I", .fieldLink RX2 15 "AnswerFold$Binding" "second" "I", .fieldLink RX2 18 "AnswerFold$Binding" "third" "I", .fieldLink RX2 21 "AnswerFold$Binding" "parameter" "I"] ++ (u_ws RX2 TX2 4))
theorem iv_k_X2_valueOf_X2 : ∀ w ∈ u_ws RX2 TX2 4, w ∈ vs_k_X2_valueOf := (fun _ h => List.mem_cons_of_mem _ (List.mem_append_right _ (h)))
set_option maxHeartbeats 4000000 in
set_option maxRecDepth 100000 in
theorem k_X2_valueOf (l : Launch) (D : va_G) (ty : Nat → ClassId) (td mi sz : Nat) (X : Nat → Nat) (b_1 : Int32) (b_2 : Int32) (b_3 : Int32) (b_p : Int32) (a1 : Int32) (a2 : Int32) (TT : r_k_X2_valueOf) (hTT : TT = m_k_X2_valueOf b_1 b_2 b_3 b_p a1 a2) : Met l yX2_valueOf vs_k_X2_valueOf { frames := 0, cells := 0, slots := 0, locals := 0 } (va_Pc [.ref (X 9), .int a1, .int a2] (wq_P D ty td mi (wW_k_X2_valueOf ty X b_1 b_2 b_3 b_p) sz)) (va_Qi (fun (r : Int32) (u : va_W) => (r = TT ∧ (u = (wW_k_X2_valueOf ty X b_1 b_2 b_3 b_p)))) (wq_B D (va_A (wW_k_X2_valueOf ty X b_1 b_2 b_3 b_p) sz)) (va_A (wW_k_X2_valueOf ty X b_1 b_2 b_3 b_p) sz)) 0 0 (va_A (wW_k_X2_valueOf ty X b_1 b_2 b_3 b_p) sz) := by
  refine Met.ofW (cc := cX2_valueOf) (maxL := 3) (ret := (some .int)) (by decide) rfl ?_
  intro p e s m args below meth c s₁ B hml hv
  obtain ⟨rfl, hsz, hP, hK, hD0, hE⟩ := hv
  have hx := B.exec
  have hb := B.bytes
  have hr := B.returns
  have hts := atoms_spec (ws := vs_k_X2_valueOf) B.pre
  have hown : s.vm.findClass RX2 = some m.cls := findClass_of_methodNamed B.named
  have hlocks := B.notSynchronized
  subst hsz
  have hD := hD0.self (sz := s.heap.size)
  generalize hAe : va_A (wW_k_X2_valueOf ty X b_1 b_2 b_3 b_p) s.heap.size = A at hD hE ⊢
  have hA : ∀ q : Nat, s.heap.size ≤ q → A q := fun q h => by rw [← hAe]; exact Or.inr h
  have hS : va_S A s.heap s.heap [] := va_S.rf
  have hP : va_P D vwCl (wW_k_X2_valueOf ty X b_1 b_2 b_3 b_p) s.heap := hP
  have hl := lv_entry ([.ref (X 9), .int a1, .int a2]) (n := 3) (Nat.le_of_ble_eq_true rfl)
  rw [lg_entry_eq]
  generalize (lg_sl ([.ref (X 9), .int a1, .int a2]) ++ List.replicate (3 - (lg_sl ([.ref (X 9), .int a1, .int a2])).length) Slot.unset).toArray = ls at hl ⊢
  have hl : lv_has ls 3 [(0, .ref (X 9)), (1, .int a1), (2, .int a2)] := hl
  have END : ∀ (r : Int32), TT = r → ∀ (H : Heap) (locs : List Loc), va_P D vwCl (wW_k_X2_valueOf ty X b_1 b_2 b_3 b_p) H → va_D A (wW_k_X2_valueOf ty X b_1 b_2 b_3 b_p) → va_S A s.heap H locs → ∀ (ls : Array Slot) (pc : Nat), decode cX2_valueOf pc = .ok (.ireturn, 1) → W p l e (headSpec vs_k_X2_valueOf { frames := 0, cells := 0, slots := 0, locals := 0 }).room s m ([.ref (X 9), .int a1, .int a2] : List Value).toArray below meth c H locs 0 0 (MQ below (va_Qi (fun (r : Int32) (u : va_W) => (r = TT ∧ (u = (wW_k_X2_valueOf ty X b_1 b_2 b_3 b_p)))) (wq_B D A) A) ([.ref (X 9), .int a1, .int a2] : List Value).toArray s 0 0 A) (F0 m pc ls [.int r]) := by
    intro r hT H locs hP hD hS ls pc hd
    have hM : TT = r := hT
    exact W.iret (v := r) hx hb hr (fun t ht hW => ⟨⟨r, (wW_k_X2_valueOf ty X b_1 b_2 b_3 b_p), rfl, ⟨(by rw [hM]), rfl⟩, wq_B.of ht hP hD⟩, hS.F ht⟩) hS.2.2 hd
  have hT := hTT
  rw [m_k_X2_valueOf] at hT
  refine lv_iload_n hx hb dX2_valueOf_0 rfl (lv_at hl 1 rfl) ?_
  by_cases c_1 : a1 = 1
  · rw [if_pos c_1] at hT
    refine lv_tableIn (off := 31) (tgt := 32) hx hb dX2_valueOf_1 (by rw [c_1]; decide) (by rw [c_1]; decide) (by rw [c_1]; rfl) (by decide) ?_
    refine lv_aload_n hx hb dX2_valueOf_32 rfl (lv_at hl 0 rfl) ?_
    refine va_get (D := D) (ci := 4) (v := .int b_1) (C := RX2) (T := TX2) (N := 4) hx hb hts iv_k_X2_valueOf_X2 hown hK hP 0 rfl rfl 0 (by decide) (hts (.fieldLink RX2 9 "AnswerFold$Binding" "first" "I") (by decide +kernel)) (fun _ h9 => h9) rfl dX2_valueOf_33 ?_
    refine lv_iload_n hx hb dX2_valueOf_36 rfl (lv_at hl 2 rfl) ?_
    refine lv_iadd hx hb dX2_valueOf_37 ?_
    exact END (b_1 + a2) hT _ _ hP hD hS _ _ dX2_valueOf_38
  · rw [if_neg c_1] at hT
    by_cases c_2 : a1 = 2
    · rw [if_pos c_2] at hT
      refine lv_tableIn (off := 38) (tgt := 39) hx hb dX2_valueOf_1 (by rw [c_2]; decide) (by rw [c_2]; decide) (by rw [c_2]; rfl) (by decide) ?_
      refine lv_aload_n hx hb dX2_valueOf_39 rfl (lv_at hl 0 rfl) ?_
      refine va_get (D := D) (ci := 4) (v := .int b_2) (C := RX2) (T := TX2) (N := 4) hx hb hts iv_k_X2_valueOf_X2 hown hK hP 0 rfl rfl 1 (by decide) (hts (.fieldLink RX2 15 "AnswerFold$Binding" "second" "I") (by decide +kernel)) (fun _ h9 => h9) rfl dX2_valueOf_40 ?_
      refine lv_iload_n hx hb dX2_valueOf_43 rfl (lv_at hl 2 rfl) ?_
      refine lv_iadd hx hb dX2_valueOf_44 ?_
      exact END (b_2 + a2) hT _ _ hP hD hS _ _ dX2_valueOf_45
    · rw [if_neg c_2] at hT
      by_cases c_3 : a1 = 3
      · rw [if_pos c_3] at hT
        refine lv_tableIn (off := 45) (tgt := 46) hx hb dX2_valueOf_1 (by rw [c_3]; decide) (by rw [c_3]; decide) (by rw [c_3]; rfl) (by decide) ?_
        refine lv_aload_n hx hb dX2_valueOf_46 rfl (lv_at hl 0 rfl) ?_
        refine va_get (D := D) (ci := 4) (v := .int b_3) (C := RX2) (T := TX2) (N := 4) hx hb hts iv_k_X2_valueOf_X2 hown hK hP 0 rfl rfl 2 (by decide) (hts (.fieldLink RX2 18 "AnswerFold$Binding" "third" "I") (by decide +kernel)) (fun _ h9 => h9) rfl dX2_valueOf_47 ?_
        refine lv_iload_n hx hb dX2_valueOf_50 rfl (lv_at hl 2 rfl) ?_
        refine lv_iadd hx hb dX2_valueOf_51 ?_
        exact END (b_3 + a2) hT _ _ hP hD hS _ _ dX2_valueOf_52
      · rw [if_neg c_3] at hT
        by_cases c_4 : a1 = 4
        · rw [if_pos c_4] at hT
          refine lv_tableIn (off := 52) (tgt := 53) hx hb dX2_valueOf_1 (by rw [c_4]; decide) (by rw [c_4]; decide) (by rw [c_4]; rfl) (by decide) ?_
          refine lv_aload_n hx hb dX2_valueOf_53 rfl (lv_at hl 0 rfl) ?_
          refine va_get (D := D) (ci := 4) (v := .int b_p) (C := RX2) (T := TX2) (N := 4) hx hb hts iv_k_X2_valueOf_X2 hown hK hP 0 rfl rfl 3 (by decide) (hts (.fieldLink RX2 21 "AnswerFold$Binding" "parameter" "I") (by decide +kernel)) (fun _ h9 => h9) rfl dX2_valueOf_54 ?_
          refine lv_iload_n hx hb dX2_valueOf_57 rfl (lv_at hl 2 rfl) ?_
          refine lv_iadd hx hb dX2_valueOf_58 ?_
          exact END (b_p + a2) hT _ _ hP hD hS _ _ dX2_valueOf_59
        · rw [if_neg c_4] at hT
          refine lv_tableOut (tgt := 60) hx hb dX2_valueOf_1 (by have n0 : a1.toInt ≠ 1 := fun h => c_1 (Int32.toInt_inj.mp (h.trans rfl)); have n1 : a1.toInt ≠ 2 := fun h => c_2 (Int32.toInt_inj.mp (h.trans rfl)); have n2 : a1.toInt ≠ 3 := fun h => c_3 (Int32.toInt_inj.mp (h.trans rfl)); have n3 : a1.toInt ≠ 4 := fun h => c_4 (Int32.toInt_inj.mp (h.trans rfl)); omega) (by decide) ?_
          refine lv_iload_n hx hb dX2_valueOf_60 rfl (lv_at hl 2 rfl) ?_
          exact END a2 hT _ _ hP hD hS _ _ dX2_valueOf_61
theorem dX2_packed_0 : decode cX2_packed 0 = .ok (.aload_n 0, 1) := by decide +kernel
theorem dX2_packed_1 : decode cX2_packed 1 = .ok (.getfield 9, 3) := by decide +kernel
theorem dX2_packed_4 : decode cX2_packed 4 = .ok (.bipush 8, 2) := by decide +kernel
theorem dX2_packed_6 : decode cX2_packed 6 = .ok (.aload_n 0, 1) := by decide +kernel
theorem dX2_packed_7 : decode cX2_packed 7 = .ok (.getfield 15, 3) := by decide +kernel
theorem dX2_packed_10 : decode cX2_packed 10 = .ok (.bipush 8, 2) := by decide +kernel
theorem dX2_packed_12 : decode cX2_packed 12 = .ok (.aload_n 0, 1) := by decide +kernel
theorem dX2_packed_13 : decode cX2_packed 13 = .ok (.getfield 18, 3) := by decide +kernel
theorem dX2_packed_16 : decode cX2_packed 16 = .ok (.bipush 8, 2) := by decide +kernel
theorem dX2_packed_18 : decode cX2_packed 18 = .ok (.aload_n 0, 1) := by decide +kernel
theorem dX2_packed_19 : decode cX2_packed 19 = .ok (.getfield 21, 3) := by decide +kernel
theorem dX2_packed_22 : decode cX2_packed 22 = .ok (.imul, 1) := by decide +kernel
theorem dX2_packed_23 : decode cX2_packed 23 = .ok (.iadd, 1) := by decide +kernel
theorem dX2_packed_24 : decode cX2_packed 24 = .ok (.imul, 1) := by decide +kernel
theorem dX2_packed_25 : decode cX2_packed 25 = .ok (.iadd, 1) := by decide +kernel
theorem dX2_packed_26 : decode cX2_packed 26 = .ok (.imul, 1) := by decide +kernel
theorem dX2_packed_27 : decode cX2_packed 27 = .ok (.iadd, 1) := by decide +kernel
theorem dX2_packed_28 : decode cX2_packed 28 = .ok (.ireturn, 1) := by decide +kernel
def wW_k_X2_packed (ty : Nat → ClassId) (X : Nat → Nat) (z9_0 : Int32) (z9_1 : Int32) (z9_2 : Int32) (z9_3 : Int32) : va_W := [((X 9), .inr (4, [.int z9_0, .int z9_1, .int z9_2, .int z9_3]))]
def vs_k_X2_packed : List Cond := .code yX2_packed cX2_packed 1 (some .int) :: ([.fieldLink RX2 9 "AnswerFold$Binding" "first" "I", .fieldLink RX2 15 "AnswerFold$Binding" "second" "I", .fieldLink RX2 18 "AnswerFold$Binding" "third" "I", .fieldLink RX2 21 "AnswerFold$Binding" "parameter" "I"] ++ (u_ws RX2 TX2 4))
theorem iv_k_X2_packed_X2 : ∀ w ∈ u_ws RX2 TX2 4, w ∈ vs_k_X2_packed := (fun _ h => List.mem_cons_of_mem _ (List.mem_append_right _ (h)))
set_option maxHeartbeats 4000000 in
set_option maxRecDepth 100000 in
theorem k_X2_packed (l : Launch) (D : va_G) (ty : Nat → ClassId) (td mi sz : Nat) (X : Nat → Nat) (b_1 : Int32) (b_2 : Int32) (b_3 : Int32) (b_p : Int32) (TT : r_k_X2_packed) (hTT : TT = m_k_X2_packed b_1 b_2 b_3 b_p) : Met l yX2_packed vs_k_X2_packed { frames := 0, cells := 0, slots := 0, locals := 0 } (va_Pc [.ref (X 9)] (wq_P D ty td mi (wW_k_X2_packed ty X b_1 b_2 b_3 b_p) sz)) (va_Qi (fun (r : Int32) (u : va_W) => (r = TT ∧ (u = (wW_k_X2_packed ty X b_1 b_2 b_3 b_p)))) (wq_B D (va_A (wW_k_X2_packed ty X b_1 b_2 b_3 b_p) sz)) (va_A (wW_k_X2_packed ty X b_1 b_2 b_3 b_p) sz)) 0 0 (va_A (wW_k_X2_packed ty X b_1 b_2 b_3 b_p) sz) := by
  refine Met.ofW (cc := cX2_packed) (maxL := 1) (ret := (some .int)) (by decide) rfl ?_
  intro p e s m args below meth c s₁ B hml hv
  obtain ⟨rfl, hsz, hP, hK, hD0, hE⟩ := hv
  have hx := B.exec
  have hb := B.bytes
  have hr := B.returns
  have hts := atoms_spec (ws := vs_k_X2_packed) B.pre
  have hown : s.vm.findClass RX2 = some m.cls := findClass_of_methodNamed B.named
  have hlocks := B.notSynchronized
  subst hsz
  have hD := hD0.self (sz := s.heap.size)
  generalize hAe : va_A (wW_k_X2_packed ty X b_1 b_2 b_3 b_p) s.heap.size = A at hD hE ⊢
  have hA : ∀ q : Nat, s.heap.size ≤ q → A q := fun q h => by rw [← hAe]; exact Or.inr h
  have hS : va_S A s.heap s.heap [] := va_S.rf
  have hP : va_P D vwCl (wW_k_X2_packed ty X b_1 b_2 b_3 b_p) s.heap := hP
  have hl := lv_entry ([.ref (X 9)]) (n := 1) (Nat.le_of_ble_eq_true rfl)
  rw [lg_entry_eq]
  generalize (lg_sl ([.ref (X 9)]) ++ List.replicate (1 - (lg_sl ([.ref (X 9)])).length) Slot.unset).toArray = ls at hl ⊢
  have hl : lv_has ls 1 [(0, .ref (X 9))] := hl
  have END : ∀ (r : Int32), TT = r → ∀ (H : Heap) (locs : List Loc), va_P D vwCl (wW_k_X2_packed ty X b_1 b_2 b_3 b_p) H → va_D A (wW_k_X2_packed ty X b_1 b_2 b_3 b_p) → va_S A s.heap H locs → ∀ (ls : Array Slot) (pc : Nat), decode cX2_packed pc = .ok (.ireturn, 1) → W p l e (headSpec vs_k_X2_packed { frames := 0, cells := 0, slots := 0, locals := 0 }).room s m ([.ref (X 9)] : List Value).toArray below meth c H locs 0 0 (MQ below (va_Qi (fun (r : Int32) (u : va_W) => (r = TT ∧ (u = (wW_k_X2_packed ty X b_1 b_2 b_3 b_p)))) (wq_B D A) A) ([.ref (X 9)] : List Value).toArray s 0 0 A) (F0 m pc ls [.int r]) := by
    intro r hT H locs hP hD hS ls pc hd
    have hM : TT = r := hT
    exact W.iret (v := r) hx hb hr (fun t ht hW => ⟨⟨r, (wW_k_X2_packed ty X b_1 b_2 b_3 b_p), rfl, ⟨(by rw [hM]), rfl⟩, wq_B.of ht hP hD⟩, hS.F ht⟩) hS.2.2 hd
  have hT := hTT
  rw [m_k_X2_packed] at hT
  refine lv_aload_n hx hb dX2_packed_0 rfl (lv_at hl 0 rfl) ?_
  refine va_get (D := D) (ci := 4) (v := .int b_1) (C := RX2) (T := TX2) (N := 4) hx hb hts iv_k_X2_packed_X2 hown hK hP 0 rfl rfl 0 (by decide) (hts (.fieldLink RX2 9 "AnswerFold$Binding" "first" "I") (by decide +kernel)) (fun _ h9 => h9) rfl dX2_packed_1 ?_
  refine lv_bipush (v := 8) hx hb dX2_packed_4 (by decide) ?_
  refine lv_aload_n hx hb dX2_packed_6 rfl (lv_at hl 0 rfl) ?_
  refine va_get (D := D) (ci := 4) (v := .int b_2) (C := RX2) (T := TX2) (N := 4) hx hb hts iv_k_X2_packed_X2 hown hK hP 0 rfl rfl 1 (by decide) (hts (.fieldLink RX2 15 "AnswerFold$Binding" "second" "I") (by decide +kernel)) (fun _ h9 => h9) rfl dX2_packed_7 ?_
  refine lv_bipush (v := 8) hx hb dX2_packed_10 (by decide) ?_
  refine lv_aload_n hx hb dX2_packed_12 rfl (lv_at hl 0 rfl) ?_
  refine va_get (D := D) (ci := 4) (v := .int b_3) (C := RX2) (T := TX2) (N := 4) hx hb hts iv_k_X2_packed_X2 hown hK hP 0 rfl rfl 2 (by decide) (hts (.fieldLink RX2 18 "AnswerFold$Binding" "third" "I") (by decide +kernel)) (fun _ h9 => h9) rfl dX2_packed_13 ?_
  refine lv_bipush (v := 8) hx hb dX2_packed_16 (by decide) ?_
  refine lv_aload_n hx hb dX2_packed_18 rfl (lv_at hl 0 rfl) ?_
  refine va_get (D := D) (ci := 4) (v := .int b_p) (C := RX2) (T := TX2) (N := 4) hx hb hts iv_k_X2_packed_X2 hown hK hP 0 rfl rfl 3 (by decide) (hts (.fieldLink RX2 21 "AnswerFold$Binding" "parameter" "I") (by decide +kernel)) (fun _ h9 => h9) rfl dX2_packed_19 ?_
  refine lv_imul hx hb dX2_packed_22 ?_
  refine lv_iadd hx hb dX2_packed_23 ?_
  refine lv_imul hx hb dX2_packed_24 ?_
  refine lv_iadd hx hb dX2_packed_25 ?_
  refine lv_imul hx hb dX2_packed_26 ?_
  refine lv_iadd hx hb dX2_packed_27 ?_
  exact END (b_1 + (8 * (b_2 + (8 * (b_3 + (8 * b_p)))))) hT _ _ hP hD hS _ _ dX2_packed_28
theorem dX2_unpack_0 : decode cX2_unpack 0 = .ok (.aload_n 0, 1) := by decide +kernel
theorem dX2_unpack_1 : decode cX2_unpack 1 = .ok (.iload_n 1, 1) := by decide +kernel
theorem dX2_unpack_2 : decode cX2_unpack 2 = .ok (.bipush 8, 2) := by decide +kernel
theorem dX2_unpack_4 : decode cX2_unpack 4 = .ok (.irem, 1) := by decide +kernel
theorem dX2_unpack_5 : decode cX2_unpack 5 = .ok (.putfield 9, 3) := by decide +kernel
theorem dX2_unpack_8 : decode cX2_unpack 8 = .ok (.aload_n 0, 1) := by decide +kernel
theorem dX2_unpack_9 : decode cX2_unpack 9 = .ok (.iload_n 1, 1) := by decide +kernel
theorem dX2_unpack_10 : decode cX2_unpack 10 = .ok (.bipush 8, 2) := by decide +kernel
theorem dX2_unpack_12 : decode cX2_unpack 12 = .ok (.idiv, 1) := by decide +kernel
theorem dX2_unpack_13 : decode cX2_unpack 13 = .ok (.bipush 8, 2) := by decide +kernel
theorem dX2_unpack_15 : decode cX2_unpack 15 = .ok (.irem, 1) := by decide +kernel
theorem dX2_unpack_16 : decode cX2_unpack 16 = .ok (.putfield 15, 3) := by decide +kernel
theorem dX2_unpack_19 : decode cX2_unpack 19 = .ok (.aload_n 0, 1) := by decide +kernel
theorem dX2_unpack_20 : decode cX2_unpack 20 = .ok (.iload_n 1, 1) := by decide +kernel
theorem dX2_unpack_21 : decode cX2_unpack 21 = .ok (.bipush 64, 2) := by decide +kernel
theorem dX2_unpack_23 : decode cX2_unpack 23 = .ok (.idiv, 1) := by decide +kernel
theorem dX2_unpack_24 : decode cX2_unpack 24 = .ok (.bipush 8, 2) := by decide +kernel
theorem dX2_unpack_26 : decode cX2_unpack 26 = .ok (.irem, 1) := by decide +kernel
theorem dX2_unpack_27 : decode cX2_unpack 27 = .ok (.putfield 18, 3) := by decide +kernel
theorem dX2_unpack_30 : decode cX2_unpack 30 = .ok (.aload_n 0, 1) := by decide +kernel
theorem dX2_unpack_31 : decode cX2_unpack 31 = .ok (.iload_n 1, 1) := by decide +kernel
theorem dX2_unpack_32 : decode cX2_unpack 32 = .ok (.sipush 512, 3) := by decide +kernel
theorem dX2_unpack_35 : decode cX2_unpack 35 = .ok (.idiv, 1) := by decide +kernel
theorem dX2_unpack_36 : decode cX2_unpack 36 = .ok (.bipush 8, 2) := by decide +kernel
theorem dX2_unpack_38 : decode cX2_unpack 38 = .ok (.irem, 1) := by decide +kernel
theorem dX2_unpack_39 : decode cX2_unpack 39 = .ok (.putfield 21, 3) := by decide +kernel
theorem dX2_unpack_42 : decode cX2_unpack 42 = .ok (.return_, 1) := by decide +kernel
def wW_k_X2_unpack (ty : Nat → ClassId) (X : Nat → Nat) (z9_0 : Int32) (z9_1 : Int32) (z9_2 : Int32) (z9_3 : Int32) : va_W := [((X 9), .inr (4, [.int z9_0, .int z9_1, .int z9_2, .int z9_3]))]
def vs_k_X2_unpack : List Cond := .code yX2_unpack cX2_unpack 2 none :: ([.fieldLink RX2 9 "AnswerFold$Binding" "first" "I", .fieldLink RX2 15 "AnswerFold$Binding" "second" "I", .fieldLink RX2 18 "AnswerFold$Binding" "third" "I", .fieldLink RX2 21 "AnswerFold$Binding" "parameter" "I"] ++ (u_ws RX2 TX2 4))
theorem iv_k_X2_unpack_X2 : ∀ w ∈ u_ws RX2 TX2 4, w ∈ vs_k_X2_unpack := (fun _ h => List.mem_cons_of_mem _ (List.mem_append_right _ (h)))
set_option maxHeartbeats 4000000 in
set_option maxRecDepth 100000 in
theorem k_X2_unpack (l : Launch) (D : va_G) (ty : Nat → ClassId) (td mi sz : Nat) (X : Nat → Nat) (b_1 : Int32) (b_2 : Int32) (b_3 : Int32) (b_p : Int32) (a1 : Int32) (TT : r_k_X2_unpack) (hTT : TT = m_k_X2_unpack a1) : Met l yX2_unpack vs_k_X2_unpack { frames := 0, cells := 0, slots := 0, locals := 0 } (va_Pc [.ref (X 9), .int a1] (wq_P D ty td mi (wW_k_X2_unpack ty X b_1 b_2 b_3 b_p) sz)) (va_Qv (fun u : va_W => ((u = (wW_k_X2_unpack ty X TT.1 TT.2.1 TT.2.2.1 TT.2.2.2)))) (wq_B D (va_A (wW_k_X2_unpack ty X b_1 b_2 b_3 b_p) sz)) (va_A (wW_k_X2_unpack ty X b_1 b_2 b_3 b_p) sz)) 0 0 (va_A (wW_k_X2_unpack ty X b_1 b_2 b_3 b_p) sz) := by
  refine Met.ofW (cc := cX2_unpack) (maxL := 2) (ret := none) (by decide) rfl ?_
  intro p e s m args below meth c s₁ B hml hv
  obtain ⟨rfl, hsz, hP, hK, hD0, hE⟩ := hv
  have hx := B.exec
  have hb := B.bytes
  have hr := B.returns
  have hts := atoms_spec (ws := vs_k_X2_unpack) B.pre
  have hown : s.vm.findClass RX2 = some m.cls := findClass_of_methodNamed B.named
  have hlocks := B.notSynchronized
  subst hsz
  have hD := hD0.self (sz := s.heap.size)
  generalize hAe : va_A (wW_k_X2_unpack ty X b_1 b_2 b_3 b_p) s.heap.size = A at hD hE ⊢
  have hA : ∀ q : Nat, s.heap.size ≤ q → A q := fun q h => by rw [← hAe]; exact Or.inr h
  have hS : va_S A s.heap s.heap [] := va_S.rf
  have hP : va_P D vwCl (wW_k_X2_unpack ty X b_1 b_2 b_3 b_p) s.heap := hP
  have hl := lv_entry ([.ref (X 9), .int a1]) (n := 2) (Nat.le_of_ble_eq_true rfl)
  rw [lg_entry_eq]
  generalize (lg_sl ([.ref (X 9), .int a1]) ++ List.replicate (2 - (lg_sl ([.ref (X 9), .int a1])).length) Slot.unset).toArray = ls at hl ⊢
  have hl : lv_has ls 2 [(0, .ref (X 9)), (1, .int a1)] := hl
  have END : ∀ (w9_0 : Int32) (w9_1 : Int32) (w9_2 : Int32) (w9_3 : Int32), TT = (w9_0, w9_1, w9_2, w9_3) → ∀ (H : Heap) (locs : List Loc), va_P D vwCl (wW_k_X2_unpack ty X w9_0 w9_1 w9_2 w9_3) H → va_D A (wW_k_X2_unpack ty X w9_0 w9_1 w9_2 w9_3) → va_S A s.heap H locs → ∀ (ls : Array Slot) (pc : Nat), decode cX2_unpack pc = .ok (.return_, 1) → W p l e (headSpec vs_k_X2_unpack { frames := 0, cells := 0, slots := 0, locals := 0 }).room s m ([.ref (X 9), .int a1] : List Value).toArray below meth c H locs 0 0 (MQ below (va_Qv (fun u : va_W => ((u = (wW_k_X2_unpack ty X TT.1 TT.2.1 TT.2.2.1 TT.2.2.2)))) (wq_B D A) A) ([.ref (X 9), .int a1] : List Value).toArray s 0 0 A) (F0 m pc ls []) := by
    intro w9_0 w9_1 w9_2 w9_3 hT H locs hP hD hS ls pc hd
    have hM : TT = (w9_0, w9_1, w9_2, w9_3) := hT
    exact W.vret hx hb hr (fun t ht hW => ⟨⟨(wW_k_X2_unpack ty X w9_0 w9_1 w9_2 w9_3), rfl, (by rw [hM]), wq_B.of ht hP hD⟩, hS.F ht⟩) hS.2.2 hd
  have hT := hTT
  rw [m_k_X2_unpack] at hT
  refine lv_aload_n hx hb dX2_unpack_0 rfl (lv_at hl 0 rfl) ?_
  refine lv_iload_n hx hb dX2_unpack_1 rfl (lv_at hl 1 rfl) ?_
  refine lv_bipush (v := 8) hx hb dX2_unpack_2 (by decide) ?_
  refine lv_irem hx hb dX2_unpack_4 (by decide) ?_
  refine va_put (D := D) (ci := 4) (v := .int (a1 - a1 / 8 * 8)) (ty := tyX2 0) (C := RX2) (T := TX2) (N := 4) hx hb hts iv_k_X2_unpack_X2 tyX2 tyX2_ok nmX2 hown hK hP hD hS 0 rfl rfl 0 (by decide) (hts (.fieldLink RX2 9 "AnswerFold$Binding" "first" "I") (by decide +kernel)) (fun _ h9 => h9) rfl (by decide +kernel) rfl rfl (Nat.le_of_ble_eq_true rfl) dX2_unpack_5 (fun H locs hP hD hS => ?_)
  have hP : va_P D vwCl (wW_k_X2_unpack ty X (a1 - a1 / 8 * 8) b_2 b_3 b_p) H := hP
  have hD : va_D A (wW_k_X2_unpack ty X (a1 - a1 / 8 * 8) b_2 b_3 b_p) := hD
  refine lv_aload_n hx hb dX2_unpack_8 rfl (lv_at hl 0 rfl) ?_
  refine lv_iload_n hx hb dX2_unpack_9 rfl (lv_at hl 1 rfl) ?_
  refine lv_bipush (v := 8) hx hb dX2_unpack_10 (by decide) ?_
  refine lv_idiv hx hb dX2_unpack_12 (by decide) ?_
  refine lv_bipush (v := 8) hx hb dX2_unpack_13 (by decide) ?_
  refine lv_irem hx hb dX2_unpack_15 (by decide) ?_
  refine va_put (D := D) (ci := 4) (v := .int ((a1 / 8) - (a1 / 8) / 8 * 8)) (ty := tyX2 1) (C := RX2) (T := TX2) (N := 4) hx hb hts iv_k_X2_unpack_X2 tyX2 tyX2_ok nmX2 hown hK hP hD hS 0 rfl rfl 1 (by decide) (hts (.fieldLink RX2 15 "AnswerFold$Binding" "second" "I") (by decide +kernel)) (fun _ h9 => h9) rfl (by decide +kernel) rfl rfl (Nat.le_of_ble_eq_true rfl) dX2_unpack_16 (fun H locs hP hD hS => ?_)
  have hP : va_P D vwCl (wW_k_X2_unpack ty X (a1 - a1 / 8 * 8) ((a1 / 8) - (a1 / 8) / 8 * 8) b_3 b_p) H := hP
  have hD : va_D A (wW_k_X2_unpack ty X (a1 - a1 / 8 * 8) ((a1 / 8) - (a1 / 8) / 8 * 8) b_3 b_p) := hD
  refine lv_aload_n hx hb dX2_unpack_19 rfl (lv_at hl 0 rfl) ?_
  refine lv_iload_n hx hb dX2_unpack_20 rfl (lv_at hl 1 rfl) ?_
  refine lv_bipush (v := 64) hx hb dX2_unpack_21 (by decide) ?_
  refine lv_idiv hx hb dX2_unpack_23 (by decide) ?_
  refine lv_bipush (v := 8) hx hb dX2_unpack_24 (by decide) ?_
  refine lv_irem hx hb dX2_unpack_26 (by decide) ?_
  refine va_put (D := D) (ci := 4) (v := .int ((a1 / 64) - (a1 / 64) / 8 * 8)) (ty := tyX2 2) (C := RX2) (T := TX2) (N := 4) hx hb hts iv_k_X2_unpack_X2 tyX2 tyX2_ok nmX2 hown hK hP hD hS 0 rfl rfl 2 (by decide) (hts (.fieldLink RX2 18 "AnswerFold$Binding" "third" "I") (by decide +kernel)) (fun _ h9 => h9) rfl (by decide +kernel) rfl rfl (Nat.le_of_ble_eq_true rfl) dX2_unpack_27 (fun H locs hP hD hS => ?_)
  have hP : va_P D vwCl (wW_k_X2_unpack ty X (a1 - a1 / 8 * 8) ((a1 / 8) - (a1 / 8) / 8 * 8) ((a1 / 64) - (a1 / 64) / 8 * 8) b_p) H := hP
  have hD : va_D A (wW_k_X2_unpack ty X (a1 - a1 / 8 * 8) ((a1 / 8) - (a1 / 8) / 8 * 8) ((a1 / 64) - (a1 / 64) / 8 * 8) b_p) := hD
  refine lv_aload_n hx hb dX2_unpack_30 rfl (lv_at hl 0 rfl) ?_
  refine lv_iload_n hx hb dX2_unpack_31 rfl (lv_at hl 1 rfl) ?_
  refine lv_sipush (v := 512) hx hb dX2_unpack_32 (by decide) ?_
  refine lv_idiv hx hb dX2_unpack_35 (by decide) ?_
  refine lv_bipush (v := 8) hx hb dX2_unpack_36 (by decide) ?_
  refine lv_irem hx hb dX2_unpack_38 (by decide) ?_
  refine va_put (D := D) (ci := 4) (v := .int ((a1 / 512) - (a1 / 512) / 8 * 8)) (ty := tyX2 3) (C := RX2) (T := TX2) (N := 4) hx hb hts iv_k_X2_unpack_X2 tyX2 tyX2_ok nmX2 hown hK hP hD hS 0 rfl rfl 3 (by decide) (hts (.fieldLink RX2 21 "AnswerFold$Binding" "parameter" "I") (by decide +kernel)) (fun _ h9 => h9) rfl (by decide +kernel) rfl rfl (Nat.le_of_ble_eq_true rfl) dX2_unpack_39 (fun H locs hP hD hS => ?_)
  have hP : va_P D vwCl (wW_k_X2_unpack ty X (a1 - a1 / 8 * 8) ((a1 / 8) - (a1 / 8) / 8 * 8) ((a1 / 64) - (a1 / 64) / 8 * 8) ((a1 / 512) - (a1 / 512) / 8 * 8)) H := hP
  have hD : va_D A (wW_k_X2_unpack ty X (a1 - a1 / 8 * 8) ((a1 / 8) - (a1 / 8) / 8 * 8) ((a1 / 64) - (a1 / 64) / 8 * 8) ((a1 / 512) - (a1 / 512) / 8 * 8)) := hD
  exact END (a1 - a1 / 8 * 8) ((a1 / 8) - (a1 / 8) / 8 * 8) ((a1 / 64) - (a1 / 64) / 8 * 8) ((a1 / 512) - (a1 / 512) / 8 * 8) hT _ _ hP hD hS _ _ dX2_unpack_42
theorem dX7_add_0 : decode cX7_add 0 = .ok (.aload_n 0, 1) := by decide +kernel
theorem dX7_add_1 : decode cX7_add 1 = .ok (.getfield 30, 3) := by decide +kernel
theorem dX7_add_4 : decode cX7_add 4 = .ok (.ifCond .lt 83, 3) := by decide +kernel
theorem dX7_add_7 : decode cX7_add 7 = .ok (.aload_n 0, 1) := by decide +kernel
theorem dX7_add_8 : decode cX7_add 8 = .ok (.getfield 30, 3) := by decide +kernel
theorem dX7_add_11 : decode cX7_add 11 = .ok (.sipush 300, 3) := by decide +kernel
theorem dX7_add_14 : decode cX7_add 14 = .ok (.if_icmp .ge 73, 3) := by decide +kernel
theorem dX7_add_17 : decode cX7_add 17 = .ok (.aload_n 0, 1) := by decide +kernel
theorem dX7_add_18 : decode cX7_add 18 = .ok (.getfield 9, 3) := by decide +kernel
theorem dX7_add_21 : decode cX7_add 21 = .ok (.aload_n 0, 1) := by decide +kernel
theorem dX7_add_22 : decode cX7_add 22 = .ok (.getfield 30, 3) := by decide +kernel
theorem dX7_add_25 : decode cX7_add 25 = .ok (.iload_n 1, 1) := by decide +kernel
theorem dX7_add_26 : decode cX7_add 26 = .ok (.iastore, 1) := by decide +kernel
theorem dX7_add_27 : decode cX7_add 27 = .ok (.aload_n 0, 1) := by decide +kernel
theorem dX7_add_28 : decode cX7_add 28 = .ok (.getfield 15, 3) := by decide +kernel
theorem dX7_add_31 : decode cX7_add 31 = .ok (.aload_n 0, 1) := by decide +kernel
theorem dX7_add_32 : decode cX7_add 32 = .ok (.getfield 30, 3) := by decide +kernel
theorem dX7_add_35 : decode cX7_add 35 = .ok (.iload_n 2, 1) := by decide +kernel
theorem dX7_add_36 : decode cX7_add 36 = .ok (.iastore, 1) := by decide +kernel
theorem dX7_add_37 : decode cX7_add 37 = .ok (.aload_n 0, 1) := by decide +kernel
theorem dX7_add_38 : decode cX7_add 38 = .ok (.getfield 18, 3) := by decide +kernel
theorem dX7_add_41 : decode cX7_add 41 = .ok (.aload_n 0, 1) := by decide +kernel
theorem dX7_add_42 : decode cX7_add 42 = .ok (.getfield 30, 3) := by decide +kernel
theorem dX7_add_45 : decode cX7_add 45 = .ok (.iload_n 3, 1) := by decide +kernel
theorem dX7_add_46 : decode cX7_add 46 = .ok (.iastore, 1) := by decide +kernel
theorem dX7_add_47 : decode cX7_add 47 = .ok (.aload_n 0, 1) := by decide +kernel
theorem dX7_add_48 : decode cX7_add 48 = .ok (.getfield 21, 3) := by decide +kernel
theorem dX7_add_51 : decode cX7_add 51 = .ok (.aload_n 0, 1) := by decide +kernel
theorem dX7_add_52 : decode cX7_add 52 = .ok (.getfield 30, 3) := by decide +kernel
theorem dX7_add_55 : decode cX7_add 55 = .ok (.iconst 0, 1) := by decide +kernel
theorem dX7_add_56 : decode cX7_add 56 = .ok (.iastore, 1) := by decide +kernel
theorem dX7_add_57 : decode cX7_add 57 = .ok (.aload_n 0, 1) := by decide +kernel
theorem dX7_add_58 : decode cX7_add 58 = .ok (.getfield 24, 3) := by decide +kernel
theorem dX7_add_61 : decode cX7_add 61 = .ok (.aload_n 0, 1) := by decide +kernel
theorem dX7_add_62 : decode cX7_add 62 = .ok (.getfield 30, 3) := by decide +kernel
theorem dX7_add_65 : decode cX7_add 65 = .ok (.iconst 0, 1) := by decide +kernel
theorem dX7_add_66 : decode cX7_add 66 = .ok (.iastore, 1) := by decide +kernel
theorem dX7_add_67 : decode cX7_add 67 = .ok (.aload_n 0, 1) := by decide +kernel
theorem dX7_add_68 : decode cX7_add 68 = .ok (.getfield 27, 3) := by decide +kernel
theorem dX7_add_71 : decode cX7_add 71 = .ok (.aload_n 0, 1) := by decide +kernel
theorem dX7_add_72 : decode cX7_add 72 = .ok (.getfield 30, 3) := by decide +kernel
theorem dX7_add_75 : decode cX7_add 75 = .ok (.iconst 0, 1) := by decide +kernel
theorem dX7_add_76 : decode cX7_add 76 = .ok (.iastore, 1) := by decide +kernel
theorem dX7_add_77 : decode cX7_add 77 = .ok (.aload_n 0, 1) := by decide +kernel
theorem dX7_add_78 : decode cX7_add 78 = .ok (.dup, 1) := by decide +kernel
theorem dX7_add_79 : decode cX7_add 79 = .ok (.getfield 30, 3) := by decide +kernel
theorem dX7_add_82 : decode cX7_add 82 = .ok (.iconst 1, 1) := by decide +kernel
theorem dX7_add_83 : decode cX7_add 83 = .ok (.iadd, 1) := by decide +kernel
theorem dX7_add_84 : decode cX7_add 84 = .ok (.putfield 30, 3) := by decide +kernel
theorem dX7_add_87 : decode cX7_add 87 = .ok (.return_, 1) := by decide +kernel
def wW_k_X7_add (ty : Nat → ClassId) (h0 : Nat) (r1 : Nat) (r2 : Nat) (r3 : Nat) (r4 : Nat) (r5 : Nat) (r6 : Nat) (z9_0 : Int32) (z9_1 : Nat → Int32) (z9_2 : Nat → Int32) (z9_3 : Nat → Int32) (z9_4 : Nat → Int32) (z9_5 : Nat → Int32) (z9_6 : Nat → Int32) : va_W := [(h0, .inr (9, [.ref r1, .ref r2, .ref r3, .ref r4, .ref r5, .ref r6, .int z9_0])), (r1, .inl (ty 0, 300, .inl z9_1)), (r2, .inl (ty 0, 300, .inl z9_2)), (r3, .inl (ty 0, 300, .inl z9_3)), (r4, .inl (ty 0, 300, .inl z9_4)), (r5, .inl (ty 0, 300, .inl z9_5)), (r6, .inl (ty 0, 300, .inl z9_6))]
def vs_k_X7_add : List Cond := .code yX7_add cX7_add 4 none :: ([.fieldLink RX7 30 "AnswerFold$Rows" "count" "I", .fieldLink RX7 9 "AnswerFold$Rows" "rules" "[I", .fieldLink RX7 15 "AnswerFold$Rows" "needs" "[I", .fieldLink RX7 18 "AnswerFold$Rows" "bars" "[I", .fieldLink RX7 21 "AnswerFold$Rows" "heads" "[I", .fieldLink RX7 24 "AnswerFold$Rows" "lows" "[I", .fieldLink RX7 27 "AnswerFold$Rows" "highs" "[I"] ++ (u_ws RX7 TX7 7))
theorem iv_k_X7_add_X7 : ∀ w ∈ u_ws RX7 TX7 7, w ∈ vs_k_X7_add := (fun _ h => List.mem_cons_of_mem _ (List.mem_append_right _ (h)))
set_option maxHeartbeats 4000000 in
set_option maxRecDepth 100000 in
theorem k_X7_add (l : Launch) (D : va_G) (ty : Nat → ClassId) (td mi sz : Nat) (h0 : Nat) (r1 : Nat) (r2 : Nat) (r3 : Nat) (r4 : Nat) (r5 : Nat) (r6 : Nat) (rc : Int32) (f1 : Nat → Int32) (f2 : Nat → Int32) (f3 : Nat → Int32) (f4 : Nat → Int32) (f5 : Nat → Int32) (f6 : Nat → Int32) (a1 : Int32) (a2 : Int32) (a3 : Int32) (TT : r_k_X7_add) (hTT : TT = m_k_X7_add rc f1 f2 f3 f4 f5 f6 a1 a2 a3) : Met l yX7_add vs_k_X7_add { frames := 0, cells := 0, slots := 0, locals := 0 } (va_Pc [.ref h0, .int a1, .int a2, .int a3] (wq_P D ty td mi (wW_k_X7_add ty h0 r1 r2 r3 r4 r5 r6 rc f1 f2 f3 f4 f5 f6) sz)) (va_Qv (fun u : va_W => ((u = (wW_k_X7_add ty h0 r1 r2 r3 r4 r5 r6 TT.1 TT.2.1 TT.2.2.1 TT.2.2.2.1 TT.2.2.2.2.1 TT.2.2.2.2.2.1 TT.2.2.2.2.2.2)))) (wq_B D (va_A (wW_k_X7_add ty h0 r1 r2 r3 r4 r5 r6 rc f1 f2 f3 f4 f5 f6) sz)) (va_A (wW_k_X7_add ty h0 r1 r2 r3 r4 r5 r6 rc f1 f2 f3 f4 f5 f6) sz)) 0 0 (va_A (wW_k_X7_add ty h0 r1 r2 r3 r4 r5 r6 rc f1 f2 f3 f4 f5 f6) sz) := by
  refine Met.ofW (cc := cX7_add) (maxL := 4) (ret := none) (by decide) rfl ?_
  intro p e s m args below meth c s₁ B hml hv
  obtain ⟨rfl, hsz, hP, hK, hD0, hE⟩ := hv
  have hx := B.exec
  have hb := B.bytes
  have hr := B.returns
  have hts := atoms_spec (ws := vs_k_X7_add) B.pre
  have hown : s.vm.findClass RX7 = some m.cls := findClass_of_methodNamed B.named
  have hlocks := B.notSynchronized
  subst hsz
  have hD := hD0.self (sz := s.heap.size)
  generalize hAe : va_A (wW_k_X7_add ty h0 r1 r2 r3 r4 r5 r6 rc f1 f2 f3 f4 f5 f6) s.heap.size = A at hD hE ⊢
  have hA : ∀ q : Nat, s.heap.size ≤ q → A q := fun q h => by rw [← hAe]; exact Or.inr h
  have hS : va_S A s.heap s.heap [] := va_S.rf
  have hP : va_P D vwCl (wW_k_X7_add ty h0 r1 r2 r3 r4 r5 r6 rc f1 f2 f3 f4 f5 f6) s.heap := hP
  have hl := lv_entry ([.ref h0, .int a1, .int a2, .int a3]) (n := 4) (Nat.le_of_ble_eq_true rfl)
  rw [lg_entry_eq]
  generalize (lg_sl ([.ref h0, .int a1, .int a2, .int a3]) ++ List.replicate (4 - (lg_sl ([.ref h0, .int a1, .int a2, .int a3])).length) Slot.unset).toArray = ls at hl ⊢
  have hl : lv_has ls 4 [(0, .ref h0), (1, .int a1), (2, .int a2), (3, .int a3)] := hl
  have END : ∀ (w9_0 : Int32) (w9_1 : Nat → Int32) (w9_2 : Nat → Int32) (w9_3 : Nat → Int32) (w9_4 : Nat → Int32) (w9_5 : Nat → Int32) (w9_6 : Nat → Int32), TT = (w9_0, w9_1, w9_2, w9_3, w9_4, w9_5, w9_6) → ∀ (H : Heap) (locs : List Loc), va_P D vwCl (wW_k_X7_add ty h0 r1 r2 r3 r4 r5 r6 w9_0 w9_1 w9_2 w9_3 w9_4 w9_5 w9_6) H → va_D A (wW_k_X7_add ty h0 r1 r2 r3 r4 r5 r6 w9_0 w9_1 w9_2 w9_3 w9_4 w9_5 w9_6) → va_S A s.heap H locs → ∀ (ls : Array Slot) (pc : Nat), decode cX7_add pc = .ok (.return_, 1) → W p l e (headSpec vs_k_X7_add { frames := 0, cells := 0, slots := 0, locals := 0 }).room s m ([.ref h0, .int a1, .int a2, .int a3] : List Value).toArray below meth c H locs 0 0 (MQ below (va_Qv (fun u : va_W => ((u = (wW_k_X7_add ty h0 r1 r2 r3 r4 r5 r6 TT.1 TT.2.1 TT.2.2.1 TT.2.2.2.1 TT.2.2.2.2.1 TT.2.2.2.2.2.1 TT.2.2.2.2.2.2)))) (wq_B D A) A) ([.ref h0, .int a1, .int a2, .int a3] : List Value).toArray s 0 0 A) (F0 m pc ls []) := by
    intro w9_0 w9_1 w9_2 w9_3 w9_4 w9_5 w9_6 hT H locs hP hD hS ls pc hd
    have hM : TT = (w9_0, w9_1, w9_2, w9_3, w9_4, w9_5, w9_6) := hT
    exact W.vret hx hb hr (fun t ht hW => ⟨⟨(wW_k_X7_add ty h0 r1 r2 r3 r4 r5 r6 w9_0 w9_1 w9_2 w9_3 w9_4 w9_5 w9_6), rfl, (by rw [hM]), wq_B.of ht hP hD⟩, hS.F ht⟩) hS.2.2 hd
  have hT := hTT
  rw [m_k_X7_add] at hT
  refine lv_aload_n hx hb dX7_add_0 rfl (lv_at hl 0 rfl) ?_
  refine va_get (D := D) (ci := 9) (v := .int rc) (C := RX7) (T := TX7) (N := 7) hx hb hts iv_k_X7_add_X7 hown hK hP 0 rfl rfl 6 (by decide) (hts (.fieldLink RX7 30 "AnswerFold$Rows" "count" "I") (by decide +kernel)) (fun _ h9 => h9) rfl dX7_add_1 ?_
  refine lv_if_lt (tgt := 87) hx hb dX7_add_4 (by decide) (fun c_1 => ?_) (fun c_1 => ?_)
  · rw [if_pos c_1] at hT
    exact END rc f1 f2 f3 f4 f5 f6 hT _ _ hP hD hS _ _ dX7_add_87
  · rw [if_neg c_1] at hT
    refine lv_aload_n hx hb dX7_add_7 rfl (lv_at hl 0 rfl) ?_
    refine va_get (D := D) (ci := 9) (v := .int rc) (C := RX7) (T := TX7) (N := 7) hx hb hts iv_k_X7_add_X7 hown hK hP 0 rfl rfl 6 (by decide) (hts (.fieldLink RX7 30 "AnswerFold$Rows" "count" "I") (by decide +kernel)) (fun _ h9 => h9) rfl dX7_add_8 ?_
    refine lv_sipush (v := 300) hx hb dX7_add_11 (by decide) ?_
    refine lv_icmp_ge (tgt := 87) hx hb dX7_add_14 (by decide) (fun c_2 => ?_) (fun c_2 => ?_)
    · rw [if_pos c_2] at hT
      exact END rc f1 f2 f3 f4 f5 f6 hT _ _ hP hD hS _ _ dX7_add_87
    · rw [if_neg c_2] at hT
      refine lv_aload_n hx hb dX7_add_17 rfl (lv_at hl 0 rfl) ?_
      refine va_get (D := D) (ci := 9) (v := .ref r1) (C := RX7) (T := TX7) (N := 7) hx hb hts iv_k_X7_add_X7 hown hK hP 0 rfl rfl 0 (by decide) (hts (.fieldLink RX7 9 "AnswerFold$Rows" "rules" "[I") (by decide +kernel)) (fun _ h9 => h9) rfl dX7_add_18 ?_
      refine lv_aload_n hx hb dX7_add_21 rfl (lv_at hl 0 rfl) ?_
      refine va_get (D := D) (ci := 9) (v := .int rc) (C := RX7) (T := TX7) (N := 7) hx hb hts iv_k_X7_add_X7 hown hK hP 0 rfl rfl 6 (by decide) (hts (.fieldLink RX7 30 "AnswerFold$Rows" "count" "I") (by decide +kernel)) (fun _ h9 => h9) rfl dX7_add_22 ?_
      refine lv_iload_n hx hb dX7_add_25 rfl (lv_at hl 1 rfl) ?_
      refine va_iast (D := D) hx hb hK hP hD hS 1 0 rfl rfl (wi_in (wi_lo c_1) (wi_hi c_2 (by decide))) dX7_add_26 (fun H locs hP hD hS => ?_)
      have hP : va_P D vwCl (wW_k_X7_add ty h0 r1 r2 r3 r4 r5 r6 rc (upd f1 rc.toNatClampNeg a1) f2 f3 f4 f5 f6) H := hP
      have hD : va_D A (wW_k_X7_add ty h0 r1 r2 r3 r4 r5 r6 rc (upd f1 rc.toNatClampNeg a1) f2 f3 f4 f5 f6) := hD
      refine lv_aload_n hx hb dX7_add_27 rfl (lv_at hl 0 rfl) ?_
      refine va_get (D := D) (ci := 9) (v := .ref r2) (C := RX7) (T := TX7) (N := 7) hx hb hts iv_k_X7_add_X7 hown hK hP 0 rfl rfl 1 (by decide) (hts (.fieldLink RX7 15 "AnswerFold$Rows" "needs" "[I") (by decide +kernel)) (fun _ h9 => h9) rfl dX7_add_28 ?_
      refine lv_aload_n hx hb dX7_add_31 rfl (lv_at hl 0 rfl) ?_
      refine va_get (D := D) (ci := 9) (v := .int rc) (C := RX7) (T := TX7) (N := 7) hx hb hts iv_k_X7_add_X7 hown hK hP 0 rfl rfl 6 (by decide) (hts (.fieldLink RX7 30 "AnswerFold$Rows" "count" "I") (by decide +kernel)) (fun _ h9 => h9) rfl dX7_add_32 ?_
      refine lv_iload_n hx hb dX7_add_35 rfl (lv_at hl 2 rfl) ?_
      refine va_iast (D := D) hx hb hK hP hD hS 2 0 rfl rfl (wi_in (wi_lo c_1) (wi_hi c_2 (by decide))) dX7_add_36 (fun H locs hP hD hS => ?_)
      have hP : va_P D vwCl (wW_k_X7_add ty h0 r1 r2 r3 r4 r5 r6 rc (upd f1 rc.toNatClampNeg a1) (upd f2 rc.toNatClampNeg a2) f3 f4 f5 f6) H := hP
      have hD : va_D A (wW_k_X7_add ty h0 r1 r2 r3 r4 r5 r6 rc (upd f1 rc.toNatClampNeg a1) (upd f2 rc.toNatClampNeg a2) f3 f4 f5 f6) := hD
      refine lv_aload_n hx hb dX7_add_37 rfl (lv_at hl 0 rfl) ?_
      refine va_get (D := D) (ci := 9) (v := .ref r3) (C := RX7) (T := TX7) (N := 7) hx hb hts iv_k_X7_add_X7 hown hK hP 0 rfl rfl 2 (by decide) (hts (.fieldLink RX7 18 "AnswerFold$Rows" "bars" "[I") (by decide +kernel)) (fun _ h9 => h9) rfl dX7_add_38 ?_
      refine lv_aload_n hx hb dX7_add_41 rfl (lv_at hl 0 rfl) ?_
      refine va_get (D := D) (ci := 9) (v := .int rc) (C := RX7) (T := TX7) (N := 7) hx hb hts iv_k_X7_add_X7 hown hK hP 0 rfl rfl 6 (by decide) (hts (.fieldLink RX7 30 "AnswerFold$Rows" "count" "I") (by decide +kernel)) (fun _ h9 => h9) rfl dX7_add_42 ?_
      refine lv_iload_n hx hb dX7_add_45 rfl (lv_at hl 3 rfl) ?_
      refine va_iast (D := D) hx hb hK hP hD hS 3 0 rfl rfl (wi_in (wi_lo c_1) (wi_hi c_2 (by decide))) dX7_add_46 (fun H locs hP hD hS => ?_)
      have hP : va_P D vwCl (wW_k_X7_add ty h0 r1 r2 r3 r4 r5 r6 rc (upd f1 rc.toNatClampNeg a1) (upd f2 rc.toNatClampNeg a2) (upd f3 rc.toNatClampNeg a3) f4 f5 f6) H := hP
      have hD : va_D A (wW_k_X7_add ty h0 r1 r2 r3 r4 r5 r6 rc (upd f1 rc.toNatClampNeg a1) (upd f2 rc.toNatClampNeg a2) (upd f3 rc.toNatClampNeg a3) f4 f5 f6) := hD
      refine lv_aload_n hx hb dX7_add_47 rfl (lv_at hl 0 rfl) ?_
      refine va_get (D := D) (ci := 9) (v := .ref r4) (C := RX7) (T := TX7) (N := 7) hx hb hts iv_k_X7_add_X7 hown hK hP 0 rfl rfl 3 (by decide) (hts (.fieldLink RX7 21 "AnswerFold$Rows" "heads" "[I") (by decide +kernel)) (fun _ h9 => h9) rfl dX7_add_48 ?_
      refine lv_aload_n hx hb dX7_add_51 rfl (lv_at hl 0 rfl) ?_
      refine va_get (D := D) (ci := 9) (v := .int rc) (C := RX7) (T := TX7) (N := 7) hx hb hts iv_k_X7_add_X7 hown hK hP 0 rfl rfl 6 (by decide) (hts (.fieldLink RX7 30 "AnswerFold$Rows" "count" "I") (by decide +kernel)) (fun _ h9 => h9) rfl dX7_add_52 ?_
      refine lv_iconst (v := 0) hx hb dX7_add_55 (by decide) ?_
      refine va_iast (D := D) hx hb hK hP hD hS 4 0 rfl rfl (wi_in (wi_lo c_1) (wi_hi c_2 (by decide))) dX7_add_56 (fun H locs hP hD hS => ?_)
      have hP : va_P D vwCl (wW_k_X7_add ty h0 r1 r2 r3 r4 r5 r6 rc (upd f1 rc.toNatClampNeg a1) (upd f2 rc.toNatClampNeg a2) (upd f3 rc.toNatClampNeg a3) (upd f4 rc.toNatClampNeg 0) f5 f6) H := hP
      have hD : va_D A (wW_k_X7_add ty h0 r1 r2 r3 r4 r5 r6 rc (upd f1 rc.toNatClampNeg a1) (upd f2 rc.toNatClampNeg a2) (upd f3 rc.toNatClampNeg a3) (upd f4 rc.toNatClampNeg 0) f5 f6) := hD
      refine lv_aload_n hx hb dX7_add_57 rfl (lv_at hl 0 rfl) ?_
      refine va_get (D := D) (ci := 9) (v := .ref r5) (C := RX7) (T := TX7) (N := 7) hx hb hts iv_k_X7_add_X7 hown hK hP 0 rfl rfl 4 (by decide) (hts (.fieldLink RX7 24 "AnswerFold$Rows" "lows" "[I") (by decide +kernel)) (fun _ h9 => h9) rfl dX7_add_58 ?_
      refine lv_aload_n hx hb dX7_add_61 rfl (lv_at hl 0 rfl) ?_
      refine va_get (D := D) (ci := 9) (v := .int rc) (C := RX7) (T := TX7) (N := 7) hx hb hts iv_k_X7_add_X7 hown hK hP 0 rfl rfl 6 (by decide) (hts (.fieldLink RX7 30 "AnswerFold$Rows" "count" "I") (by decide +kernel)) (fun _ h9 => h9) rfl dX7_add_62 ?_
      refine lv_iconst (v := 0) hx hb dX7_add_65 (by decide) ?_
      refine va_iast (D := D) hx hb hK hP hD hS 5 0 rfl rfl (wi_in (wi_lo c_1) (wi_hi c_2 (by decide))) dX7_add_66 (fun H locs hP hD hS => ?_)
      have hP : va_P D vwCl (wW_k_X7_add ty h0 r1 r2 r3 r4 r5 r6 rc (upd f1 rc.toNatClampNeg a1) (upd f2 rc.toNatClampNeg a2) (upd f3 rc.toNatClampNeg a3) (upd f4 rc.toNatClampNeg 0) (upd f5 rc.toNatClampNeg 0) f6) H := hP
      have hD : va_D A (wW_k_X7_add ty h0 r1 r2 r3 r4 r5 r6 rc (upd f1 rc.toNatClampNeg a1) (upd f2 rc.toNatClampNeg a2) (upd f3 rc.toNatClampNeg a3) (upd f4 rc.toNatClampNeg 0) (upd f5 rc.toNatClampNeg 0) f6) := hD
      refine lv_aload_n hx hb dX7_add_67 rfl (lv_at hl 0 rfl) ?_
      refine va_get (D := D) (ci := 9) (v := .ref r6) (C := RX7) (T := TX7) (N := 7) hx hb hts iv_k_X7_add_X7 hown hK hP 0 rfl rfl 5 (by decide) (hts (.fieldLink RX7 27 "AnswerFold$Rows" "highs" "[I") (by decide +kernel)) (fun _ h9 => h9) rfl dX7_add_68 ?_
      refine lv_aload_n hx hb dX7_add_71 rfl (lv_at hl 0 rfl) ?_
      refine va_get (D := D) (ci := 9) (v := .int rc) (C := RX7) (T := TX7) (N := 7) hx hb hts iv_k_X7_add_X7 hown hK hP 0 rfl rfl 6 (by decide) (hts (.fieldLink RX7 30 "AnswerFold$Rows" "count" "I") (by decide +kernel)) (fun _ h9 => h9) rfl dX7_add_72 ?_
      refine lv_iconst (v := 0) hx hb dX7_add_75 (by decide) ?_
      refine va_iast (D := D) hx hb hK hP hD hS 6 0 rfl rfl (wi_in (wi_lo c_1) (wi_hi c_2 (by decide))) dX7_add_76 (fun H locs hP hD hS => ?_)
      have hP : va_P D vwCl (wW_k_X7_add ty h0 r1 r2 r3 r4 r5 r6 rc (upd f1 rc.toNatClampNeg a1) (upd f2 rc.toNatClampNeg a2) (upd f3 rc.toNatClampNeg a3) (upd f4 rc.toNatClampNeg 0) (upd f5 rc.toNatClampNeg 0) (upd f6 rc.toNatClampNeg 0)) H := hP
      have hD : va_D A (wW_k_X7_add ty h0 r1 r2 r3 r4 r5 r6 rc (upd f1 rc.toNatClampNeg a1) (upd f2 rc.toNatClampNeg a2) (upd f3 rc.toNatClampNeg a3) (upd f4 rc.toNatClampNeg 0) (upd f5 rc.toNatClampNeg 0) (upd f6 rc.toNatClampNeg 0)) := hD
      refine lv_aload_n hx hb dX7_add_77 rfl (lv_at hl 0 rfl) ?_
      refine lv_dup hx hb dX7_add_78 rfl ?_
      refine va_get (D := D) (ci := 9) (v := .int rc) (C := RX7) (T := TX7) (N := 7) hx hb hts iv_k_X7_add_X7 hown hK hP 0 rfl rfl 6 (by decide) (hts (.fieldLink RX7 30 "AnswerFold$Rows" "count" "I") (by decide +kernel)) (fun _ h9 => h9) rfl dX7_add_79 ?_
      refine lv_iconst (v := 1) hx hb dX7_add_82 (by decide) ?_
      refine lv_iadd hx hb dX7_add_83 ?_
      refine va_put (D := D) (ci := 9) (v := .int (rc + 1)) (ty := tyX7 6) (C := RX7) (T := TX7) (N := 7) hx hb hts iv_k_X7_add_X7 tyX7 tyX7_ok nmX7 hown hK hP hD hS 0 rfl rfl 6 (by decide) (hts (.fieldLink RX7 30 "AnswerFold$Rows" "count" "I") (by decide +kernel)) (fun _ h9 => h9) rfl (by decide +kernel) rfl rfl (Nat.le_of_ble_eq_true rfl) dX7_add_84 (fun H locs hP hD hS => ?_)
      have hP : va_P D vwCl (wW_k_X7_add ty h0 r1 r2 r3 r4 r5 r6 (rc + 1) (upd f1 rc.toNatClampNeg a1) (upd f2 rc.toNatClampNeg a2) (upd f3 rc.toNatClampNeg a3) (upd f4 rc.toNatClampNeg 0) (upd f5 rc.toNatClampNeg 0) (upd f6 rc.toNatClampNeg 0)) H := hP
      have hD : va_D A (wW_k_X7_add ty h0 r1 r2 r3 r4 r5 r6 (rc + 1) (upd f1 rc.toNatClampNeg a1) (upd f2 rc.toNatClampNeg a2) (upd f3 rc.toNatClampNeg a3) (upd f4 rc.toNatClampNeg 0) (upd f5 rc.toNatClampNeg 0) (upd f6 rc.toNatClampNeg 0)) := hD
      exact END (rc + 1) (upd f1 rc.toNatClampNeg a1) (upd f2 rc.toNatClampNeg a2) (upd f3 rc.toNatClampNeg a3) (upd f4 rc.toNatClampNeg 0) (upd f5 rc.toNatClampNeg 0) (upd f6 rc.toNatClampNeg 0) hT _ _ hP hD hS _ _ dX7_add_87
theorem dX7_boundLast_0 : decode cX7_boundLast 0 = .ok (.aload_n 0, 1) := by decide +kernel
theorem dX7_boundLast_1 : decode cX7_boundLast 1 = .ok (.getfield 30, 3) := by decide +kernel
theorem dX7_boundLast_4 : decode cX7_boundLast 4 = .ok (.iconst 1, 1) := by decide +kernel
theorem dX7_boundLast_5 : decode cX7_boundLast 5 = .ok (.isub, 1) := by decide +kernel
theorem dX7_boundLast_6 : decode cX7_boundLast 6 = .ok (.istore 4, 2) := by decide +kernel
theorem dX7_boundLast_8 : decode cX7_boundLast 8 = .ok (.iload 4, 2) := by decide +kernel
theorem dX7_boundLast_10 : decode cX7_boundLast 10 = .ok (.ifCond .lt 35, 3) := by decide +kernel
theorem dX7_boundLast_13 : decode cX7_boundLast 13 = .ok (.iload 4, 2) := by decide +kernel
theorem dX7_boundLast_15 : decode cX7_boundLast 15 = .ok (.sipush 300, 3) := by decide +kernel
theorem dX7_boundLast_18 : decode cX7_boundLast 18 = .ok (.if_icmp .ge 27, 3) := by decide +kernel
theorem dX7_boundLast_21 : decode cX7_boundLast 21 = .ok (.aload_n 0, 1) := by decide +kernel
theorem dX7_boundLast_22 : decode cX7_boundLast 22 = .ok (.getfield 21, 3) := by decide +kernel
theorem dX7_boundLast_25 : decode cX7_boundLast 25 = .ok (.iload 4, 2) := by decide +kernel
theorem dX7_boundLast_27 : decode cX7_boundLast 27 = .ok (.iload_n 1, 1) := by decide +kernel
theorem dX7_boundLast_28 : decode cX7_boundLast 28 = .ok (.iastore, 1) := by decide +kernel
theorem dX7_boundLast_29 : decode cX7_boundLast 29 = .ok (.aload_n 0, 1) := by decide +kernel
theorem dX7_boundLast_30 : decode cX7_boundLast 30 = .ok (.getfield 24, 3) := by decide +kernel
theorem dX7_boundLast_33 : decode cX7_boundLast 33 = .ok (.iload 4, 2) := by decide +kernel
theorem dX7_boundLast_35 : decode cX7_boundLast 35 = .ok (.iload_n 2, 1) := by decide +kernel
theorem dX7_boundLast_36 : decode cX7_boundLast 36 = .ok (.iastore, 1) := by decide +kernel
theorem dX7_boundLast_37 : decode cX7_boundLast 37 = .ok (.aload_n 0, 1) := by decide +kernel
theorem dX7_boundLast_38 : decode cX7_boundLast 38 = .ok (.getfield 27, 3) := by decide +kernel
theorem dX7_boundLast_41 : decode cX7_boundLast 41 = .ok (.iload 4, 2) := by decide +kernel
theorem dX7_boundLast_43 : decode cX7_boundLast 43 = .ok (.iload_n 3, 1) := by decide +kernel
theorem dX7_boundLast_44 : decode cX7_boundLast 44 = .ok (.iastore, 1) := by decide +kernel
theorem dX7_boundLast_45 : decode cX7_boundLast 45 = .ok (.return_, 1) := by decide +kernel
def wW_k_X7_boundLast (ty : Nat → ClassId) (h0 : Nat) (r1 : Nat) (r2 : Nat) (r3 : Nat) (r4 : Nat) (r5 : Nat) (r6 : Nat) (z9_0 : Int32) (z9_1 : Nat → Int32) (z9_2 : Nat → Int32) (z9_3 : Nat → Int32) : va_W := [(h0, .inr (9, [.ref r1, .ref r2, .ref r3, .ref r4, .ref r5, .ref r6, .int z9_0])), (r4, .inl (ty 0, 300, .inl z9_1)), (r5, .inl (ty 0, 300, .inl z9_2)), (r6, .inl (ty 0, 300, .inl z9_3))]
def vs_k_X7_boundLast : List Cond := .code yX7_boundLast cX7_boundLast 5 none :: ([.fieldLink RX7 30 "AnswerFold$Rows" "count" "I", .fieldLink RX7 21 "AnswerFold$Rows" "heads" "[I", .fieldLink RX7 24 "AnswerFold$Rows" "lows" "[I", .fieldLink RX7 27 "AnswerFold$Rows" "highs" "[I"] ++ (u_ws RX7 TX7 7))
theorem iv_k_X7_boundLast_X7 : ∀ w ∈ u_ws RX7 TX7 7, w ∈ vs_k_X7_boundLast := (fun _ h => List.mem_cons_of_mem _ (List.mem_append_right _ (h)))
set_option maxHeartbeats 4000000 in
set_option maxRecDepth 100000 in
theorem k_X7_boundLast (l : Launch) (D : va_G) (ty : Nat → ClassId) (td mi sz : Nat) (h0 : Nat) (r1 : Nat) (r2 : Nat) (r3 : Nat) (r4 : Nat) (r5 : Nat) (r6 : Nat) (rc : Int32) (f4 : Nat → Int32) (f5 : Nat → Int32) (f6 : Nat → Int32) (a1 : Int32) (a2 : Int32) (a3 : Int32) (TT : r_k_X7_boundLast) (hTT : TT = m_k_X7_boundLast rc f4 f5 f6 a1 a2 a3) : Met l yX7_boundLast vs_k_X7_boundLast { frames := 0, cells := 0, slots := 0, locals := 0 } (va_Pc [.ref h0, .int a1, .int a2, .int a3] (wq_P D ty td mi (wW_k_X7_boundLast ty h0 r1 r2 r3 r4 r5 r6 rc f4 f5 f6) sz)) (va_Qv (fun u : va_W => ((u = (wW_k_X7_boundLast ty h0 r1 r2 r3 r4 r5 r6 rc TT.1 TT.2.1 TT.2.2)))) (wq_B D (va_A (wW_k_X7_boundLast ty h0 r1 r2 r3 r4 r5 r6 rc f4 f5 f6) sz)) (va_A (wW_k_X7_boundLast ty h0 r1 r2 r3 r4 r5 r6 rc f4 f5 f6) sz)) 0 0 (va_A (wW_k_X7_boundLast ty h0 r1 r2 r3 r4 r5 r6 rc f4 f5 f6) sz) := by
  refine Met.ofW (cc := cX7_boundLast) (maxL := 5) (ret := none) (by decide) rfl ?_
  intro p e s m args below meth c s₁ B hml hv
  obtain ⟨rfl, hsz, hP, hK, hD0, hE⟩ := hv
  have hx := B.exec
  have hb := B.bytes
  have hr := B.returns
  have hts := atoms_spec (ws := vs_k_X7_boundLast) B.pre
  have hown : s.vm.findClass RX7 = some m.cls := findClass_of_methodNamed B.named
  have hlocks := B.notSynchronized
  subst hsz
  have hD := hD0.self (sz := s.heap.size)
  generalize hAe : va_A (wW_k_X7_boundLast ty h0 r1 r2 r3 r4 r5 r6 rc f4 f5 f6) s.heap.size = A at hD hE ⊢
  have hA : ∀ q : Nat, s.heap.size ≤ q → A q := fun q h => by rw [← hAe]; exact Or.inr h
  have hS : va_S A s.heap s.heap [] := va_S.rf
  have hP : va_P D vwCl (wW_k_X7_boundLast ty h0 r1 r2 r3 r4 r5 r6 rc f4 f5 f6) s.heap := hP
  have hl := lv_entry ([.ref h0, .int a1, .int a2, .int a3]) (n := 5) (Nat.le_of_ble_eq_true rfl)
  rw [lg_entry_eq]
  generalize (lg_sl ([.ref h0, .int a1, .int a2, .int a3]) ++ List.replicate (5 - (lg_sl ([.ref h0, .int a1, .int a2, .int a3])).length) Slot.unset).toArray = ls at hl ⊢
  have hl : lv_has ls 5 [(0, .ref h0), (1, .int a1), (2, .int a2), (3, .int a3)] := hl
  have END : ∀ (w9_0 : Nat → Int32) (w9_1 : Nat → Int32) (w9_2 : Nat → Int32), TT = (w9_0, w9_1, w9_2) → ∀ (H : Heap) (locs : List Loc), va_P D vwCl (wW_k_X7_boundLast ty h0 r1 r2 r3 r4 r5 r6 rc w9_0 w9_1 w9_2) H → va_D A (wW_k_X7_boundLast ty h0 r1 r2 r3 r4 r5 r6 rc w9_0 w9_1 w9_2) → va_S A s.heap H locs → ∀ (ls : Array Slot) (pc : Nat), decode cX7_boundLast pc = .ok (.return_, 1) → W p l e (headSpec vs_k_X7_boundLast { frames := 0, cells := 0, slots := 0, locals := 0 }).room s m ([.ref h0, .int a1, .int a2, .int a3] : List Value).toArray below meth c H locs 0 0 (MQ below (va_Qv (fun u : va_W => ((u = (wW_k_X7_boundLast ty h0 r1 r2 r3 r4 r5 r6 rc TT.1 TT.2.1 TT.2.2)))) (wq_B D A) A) ([.ref h0, .int a1, .int a2, .int a3] : List Value).toArray s 0 0 A) (F0 m pc ls []) := by
    intro w9_0 w9_1 w9_2 hT H locs hP hD hS ls pc hd
    have hM : TT = (w9_0, w9_1, w9_2) := hT
    exact W.vret hx hb hr (fun t ht hW => ⟨⟨(wW_k_X7_boundLast ty h0 r1 r2 r3 r4 r5 r6 rc w9_0 w9_1 w9_2), rfl, (by rw [hM]), wq_B.of ht hP hD⟩, hS.F ht⟩) hS.2.2 hd
  have hT := hTT
  rw [m_k_X7_boundLast] at hT
  refine lv_aload_n hx hb dX7_boundLast_0 rfl (lv_at hl 0 rfl) ?_
  refine va_get (D := D) (ci := 9) (v := .int rc) (C := RX7) (T := TX7) (N := 7) hx hb hts iv_k_X7_boundLast_X7 hown hK hP 0 rfl rfl 6 (by decide) (hts (.fieldLink RX7 30 "AnswerFold$Rows" "count" "I") (by decide +kernel)) (fun _ h9 => h9) rfl dX7_boundLast_1 ?_
  refine lv_iconst (v := 1) hx hb dX7_boundLast_4 (by decide) ?_
  refine lv_isub hx hb dX7_boundLast_5 ?_
  refine lv_istore (lv' := [(4, .int (rc - 1)), (0, .ref h0), (1, .int a1), (2, .int a2), (3, .int a3)]) hx hb dX7_boundLast_6 hl (by decide) rfl (fun ls hl => ?_)
  refine lv_iload hx hb dX7_boundLast_8 (lv_at hl 0 rfl) ?_
  refine lv_if_lt (tgt := 45) hx hb dX7_boundLast_10 (by decide) (fun c_1 => ?_) (fun c_1 => ?_)
  · rw [if_pos c_1] at hT
    exact END f4 f5 f6 hT _ _ hP hD hS _ _ dX7_boundLast_45
  · rw [if_neg c_1] at hT
    refine lv_iload hx hb dX7_boundLast_13 (lv_at hl 0 rfl) ?_
    refine lv_sipush (v := 300) hx hb dX7_boundLast_15 (by decide) ?_
    refine lv_icmp_ge (tgt := 45) hx hb dX7_boundLast_18 (by decide) (fun c_2 => ?_) (fun c_2 => ?_)
    · rw [if_pos c_2] at hT
      exact END f4 f5 f6 hT _ _ hP hD hS _ _ dX7_boundLast_45
    · rw [if_neg c_2] at hT
      refine lv_aload_n hx hb dX7_boundLast_21 rfl (lv_at hl 1 rfl) ?_
      refine va_get (D := D) (ci := 9) (v := .ref r4) (C := RX7) (T := TX7) (N := 7) hx hb hts iv_k_X7_boundLast_X7 hown hK hP 0 rfl rfl 3 (by decide) (hts (.fieldLink RX7 21 "AnswerFold$Rows" "heads" "[I") (by decide +kernel)) (fun _ h9 => h9) rfl dX7_boundLast_22 ?_
      refine lv_iload hx hb dX7_boundLast_25 (lv_at hl 0 rfl) ?_
      refine lv_iload_n hx hb dX7_boundLast_27 rfl (lv_at hl 2 rfl) ?_
      refine va_iast (D := D) hx hb hK hP hD hS 1 0 rfl rfl (wi_in (wi_lo c_1) (wi_hi c_2 (by decide))) dX7_boundLast_28 (fun H locs hP hD hS => ?_)
      have hP : va_P D vwCl (wW_k_X7_boundLast ty h0 r1 r2 r3 r4 r5 r6 rc (upd f4 ((rc - 1).toNatClampNeg) a1) f5 f6) H := hP
      have hD : va_D A (wW_k_X7_boundLast ty h0 r1 r2 r3 r4 r5 r6 rc (upd f4 ((rc - 1).toNatClampNeg) a1) f5 f6) := hD
      refine lv_aload_n hx hb dX7_boundLast_29 rfl (lv_at hl 1 rfl) ?_
      refine va_get (D := D) (ci := 9) (v := .ref r5) (C := RX7) (T := TX7) (N := 7) hx hb hts iv_k_X7_boundLast_X7 hown hK hP 0 rfl rfl 4 (by decide) (hts (.fieldLink RX7 24 "AnswerFold$Rows" "lows" "[I") (by decide +kernel)) (fun _ h9 => h9) rfl dX7_boundLast_30 ?_
      refine lv_iload hx hb dX7_boundLast_33 (lv_at hl 0 rfl) ?_
      refine lv_iload_n hx hb dX7_boundLast_35 rfl (lv_at hl 3 rfl) ?_
      refine va_iast (D := D) hx hb hK hP hD hS 2 0 rfl rfl (wi_in (wi_lo c_1) (wi_hi c_2 (by decide))) dX7_boundLast_36 (fun H locs hP hD hS => ?_)
      have hP : va_P D vwCl (wW_k_X7_boundLast ty h0 r1 r2 r3 r4 r5 r6 rc (upd f4 ((rc - 1).toNatClampNeg) a1) (upd f5 ((rc - 1).toNatClampNeg) a2) f6) H := hP
      have hD : va_D A (wW_k_X7_boundLast ty h0 r1 r2 r3 r4 r5 r6 rc (upd f4 ((rc - 1).toNatClampNeg) a1) (upd f5 ((rc - 1).toNatClampNeg) a2) f6) := hD
      refine lv_aload_n hx hb dX7_boundLast_37 rfl (lv_at hl 1 rfl) ?_
      refine va_get (D := D) (ci := 9) (v := .ref r6) (C := RX7) (T := TX7) (N := 7) hx hb hts iv_k_X7_boundLast_X7 hown hK hP 0 rfl rfl 5 (by decide) (hts (.fieldLink RX7 27 "AnswerFold$Rows" "highs" "[I") (by decide +kernel)) (fun _ h9 => h9) rfl dX7_boundLast_38 ?_
      refine lv_iload hx hb dX7_boundLast_41 (lv_at hl 0 rfl) ?_
      refine lv_iload_n hx hb dX7_boundLast_43 rfl (lv_at hl 4 rfl) ?_
      refine va_iast (D := D) hx hb hK hP hD hS 3 0 rfl rfl (wi_in (wi_lo c_1) (wi_hi c_2 (by decide))) dX7_boundLast_44 (fun H locs hP hD hS => ?_)
      have hP : va_P D vwCl (wW_k_X7_boundLast ty h0 r1 r2 r3 r4 r5 r6 rc (upd f4 ((rc - 1).toNatClampNeg) a1) (upd f5 ((rc - 1).toNatClampNeg) a2) (upd f6 ((rc - 1).toNatClampNeg) a3)) H := hP
      have hD : va_D A (wW_k_X7_boundLast ty h0 r1 r2 r3 r4 r5 r6 rc (upd f4 ((rc - 1).toNatClampNeg) a1) (upd f5 ((rc - 1).toNatClampNeg) a2) (upd f6 ((rc - 1).toNatClampNeg) a3)) := hD
      exact END (upd f4 ((rc - 1).toNatClampNeg) a1) (upd f5 ((rc - 1).toNatClampNeg) a2) (upd f6 ((rc - 1).toNatClampNeg) a3) hT _ _ hP hD hS _ _ dX7_boundLast_45
theorem dX7_ruleAt_0 : decode cX7_ruleAt 0 = .ok (.iload_n 1, 1) := by decide +kernel
theorem dX7_ruleAt_1 : decode cX7_ruleAt 1 = .ok (.ifCond .lt 19, 3) := by decide +kernel
theorem dX7_ruleAt_4 : decode cX7_ruleAt 4 = .ok (.iload_n 1, 1) := by decide +kernel
theorem dX7_ruleAt_5 : decode cX7_ruleAt 5 = .ok (.sipush 300, 3) := by decide +kernel
theorem dX7_ruleAt_8 : decode cX7_ruleAt 8 = .ok (.if_icmp .ge 12, 3) := by decide +kernel
theorem dX7_ruleAt_11 : decode cX7_ruleAt 11 = .ok (.aload_n 0, 1) := by decide +kernel
theorem dX7_ruleAt_12 : decode cX7_ruleAt 12 = .ok (.getfield 9, 3) := by decide +kernel
theorem dX7_ruleAt_15 : decode cX7_ruleAt 15 = .ok (.iload_n 1, 1) := by decide +kernel
theorem dX7_ruleAt_16 : decode cX7_ruleAt 16 = .ok (.iaload, 1) := by decide +kernel
theorem dX7_ruleAt_17 : decode cX7_ruleAt 17 = .ok (.goto 4, 3) := by decide +kernel
theorem dX7_ruleAt_20 : decode cX7_ruleAt 20 = .ok (.iconst (-1), 1) := by decide +kernel
theorem dX7_ruleAt_21 : decode cX7_ruleAt 21 = .ok (.ireturn, 1) := by decide +kernel
def wW_k_X7_ruleAt (ty : Nat → ClassId) (h0 : Nat) (r1 : Nat) (r2 : Nat) (r3 : Nat) (r4 : Nat) (r5 : Nat) (r6 : Nat) (z9_0 : Int32) (z9_1 : Nat → Int32) : va_W := [(h0, .inr (9, [.ref r1, .ref r2, .ref r3, .ref r4, .ref r5, .ref r6, .int z9_0])), (r1, .inl (ty 0, 300, .inl z9_1))]
def vs_k_X7_ruleAt : List Cond := .code yX7_ruleAt cX7_ruleAt 2 (some .int) :: ([.fieldLink RX7 9 "AnswerFold$Rows" "rules" "[I"] ++ (u_ws RX7 TX7 7))
theorem iv_k_X7_ruleAt_X7 : ∀ w ∈ u_ws RX7 TX7 7, w ∈ vs_k_X7_ruleAt := (fun _ h => List.mem_cons_of_mem _ (List.mem_append_right _ (h)))
set_option maxHeartbeats 4000000 in
set_option maxRecDepth 100000 in
theorem k_X7_ruleAt (l : Launch) (D : va_G) (ty : Nat → ClassId) (td mi sz : Nat) (h0 : Nat) (r1 : Nat) (r2 : Nat) (r3 : Nat) (r4 : Nat) (r5 : Nat) (r6 : Nat) (rc : Int32) (f1 : Nat → Int32) (a1 : Int32) (TT : r_k_X7_ruleAt) (hTT : TT = m_k_X7_ruleAt f1 a1) : Met l yX7_ruleAt vs_k_X7_ruleAt { frames := 0, cells := 0, slots := 0, locals := 0 } (va_Pc [.ref h0, .int a1] (wq_P D ty td mi (wW_k_X7_ruleAt ty h0 r1 r2 r3 r4 r5 r6 rc f1) sz)) (va_Qi (fun (r : Int32) (u : va_W) => (r = TT ∧ (u = (wW_k_X7_ruleAt ty h0 r1 r2 r3 r4 r5 r6 rc f1)))) (wq_B D (va_A (wW_k_X7_ruleAt ty h0 r1 r2 r3 r4 r5 r6 rc f1) sz)) (va_A (wW_k_X7_ruleAt ty h0 r1 r2 r3 r4 r5 r6 rc f1) sz)) 0 0 (va_A (wW_k_X7_ruleAt ty h0 r1 r2 r3 r4 r5 r6 rc f1) sz) := by
  refine Met.ofW (cc := cX7_ruleAt) (maxL := 2) (ret := (some .int)) (by decide) rfl ?_
  intro p e s m args below meth c s₁ B hml hv
  obtain ⟨rfl, hsz, hP, hK, hD0, hE⟩ := hv
  have hx := B.exec
  have hb := B.bytes
  have hr := B.returns
  have hts := atoms_spec (ws := vs_k_X7_ruleAt) B.pre
  have hown : s.vm.findClass RX7 = some m.cls := findClass_of_methodNamed B.named
  have hlocks := B.notSynchronized
  subst hsz
  have hD := hD0.self (sz := s.heap.size)
  generalize hAe : va_A (wW_k_X7_ruleAt ty h0 r1 r2 r3 r4 r5 r6 rc f1) s.heap.size = A at hD hE ⊢
  have hA : ∀ q : Nat, s.heap.size ≤ q → A q := fun q h => by rw [← hAe]; exact Or.inr h
  have hS : va_S A s.heap s.heap [] := va_S.rf
  have hP : va_P D vwCl (wW_k_X7_ruleAt ty h0 r1 r2 r3 r4 r5 r6 rc f1) s.heap := hP
  have hl := lv_entry ([.ref h0, .int a1]) (n := 2) (Nat.le_of_ble_eq_true rfl)
  rw [lg_entry_eq]
  generalize (lg_sl ([.ref h0, .int a1]) ++ List.replicate (2 - (lg_sl ([.ref h0, .int a1])).length) Slot.unset).toArray = ls at hl ⊢
  have hl : lv_has ls 2 [(0, .ref h0), (1, .int a1)] := hl
  have END : ∀ (r : Int32), TT = r → ∀ (H : Heap) (locs : List Loc), va_P D vwCl (wW_k_X7_ruleAt ty h0 r1 r2 r3 r4 r5 r6 rc f1) H → va_D A (wW_k_X7_ruleAt ty h0 r1 r2 r3 r4 r5 r6 rc f1) → va_S A s.heap H locs → ∀ (ls : Array Slot) (pc : Nat), decode cX7_ruleAt pc = .ok (.ireturn, 1) → W p l e (headSpec vs_k_X7_ruleAt { frames := 0, cells := 0, slots := 0, locals := 0 }).room s m ([.ref h0, .int a1] : List Value).toArray below meth c H locs 0 0 (MQ below (va_Qi (fun (r : Int32) (u : va_W) => (r = TT ∧ (u = (wW_k_X7_ruleAt ty h0 r1 r2 r3 r4 r5 r6 rc f1)))) (wq_B D A) A) ([.ref h0, .int a1] : List Value).toArray s 0 0 A) (F0 m pc ls [.int r]) := by
    intro r hT H locs hP hD hS ls pc hd
    have hM : TT = r := hT
    exact W.iret (v := r) hx hb hr (fun t ht hW => ⟨⟨r, (wW_k_X7_ruleAt ty h0 r1 r2 r3 r4 r5 r6 rc f1), rfl, ⟨(by rw [hM]), rfl⟩, wq_B.of ht hP hD⟩, hS.F ht⟩) hS.2.2 hd
  have hT := hTT
  rw [m_k_X7_ruleAt] at hT
  refine lv_iload_n hx hb dX7_ruleAt_0 rfl (lv_at hl 1 rfl) ?_
  refine lv_if_lt (tgt := 20) hx hb dX7_ruleAt_1 (by decide) (fun c_1 => ?_) (fun c_1 => ?_)
  · rw [if_pos c_1] at hT
    refine lv_iconst (v := (-1)) hx hb dX7_ruleAt_20 (by decide) ?_
    exact END (-1) hT _ _ hP hD hS _ _ dX7_ruleAt_21
  · rw [if_neg c_1] at hT
    refine lv_iload_n hx hb dX7_ruleAt_4 rfl (lv_at hl 1 rfl) ?_
    refine lv_sipush (v := 300) hx hb dX7_ruleAt_5 (by decide) ?_
    refine lv_icmp_ge (tgt := 20) hx hb dX7_ruleAt_8 (by decide) (fun c_2 => ?_) (fun c_2 => ?_)
    · rw [if_pos c_2] at hT
      refine lv_iconst (v := (-1)) hx hb dX7_ruleAt_20 (by decide) ?_
      exact END (-1) hT _ _ hP hD hS _ _ dX7_ruleAt_21
    · rw [if_neg c_2] at hT
      refine lv_aload_n hx hb dX7_ruleAt_11 rfl (lv_at hl 0 rfl) ?_
      refine va_get (D := D) (ci := 9) (v := .ref r1) (C := RX7) (T := TX7) (N := 7) hx hb hts iv_k_X7_ruleAt_X7 hown hK hP 0 rfl rfl 0 (by decide) (hts (.fieldLink RX7 9 "AnswerFold$Rows" "rules" "[I") (by decide +kernel)) (fun _ h9 => h9) rfl dX7_ruleAt_12 ?_
      refine lv_iload_n hx hb dX7_ruleAt_15 rfl (lv_at hl 1 rfl) ?_
      refine va_iald (D := D) hx hb hK hP 1 0 rfl rfl (wi_in (wi_lo c_1) (wi_hi c_2 (by decide))) dX7_ruleAt_16 ?_
      refine lv_goto (tgt := 21) hx hb dX7_ruleAt_17 (by decide) ?_
      exact END (f1 a1.toNatClampNeg) hT _ _ hP hD hS _ _ dX7_ruleAt_21
theorem dX7_headsAt_0 : decode cX7_headsAt 0 = .ok (.iload_n 1, 1) := by decide +kernel
theorem dX7_headsAt_1 : decode cX7_headsAt 1 = .ok (.ifCond .lt 19, 3) := by decide +kernel
theorem dX7_headsAt_4 : decode cX7_headsAt 4 = .ok (.iload_n 1, 1) := by decide +kernel
theorem dX7_headsAt_5 : decode cX7_headsAt 5 = .ok (.sipush 300, 3) := by decide +kernel
theorem dX7_headsAt_8 : decode cX7_headsAt 8 = .ok (.if_icmp .ge 12, 3) := by decide +kernel
theorem dX7_headsAt_11 : decode cX7_headsAt 11 = .ok (.aload_n 0, 1) := by decide +kernel
theorem dX7_headsAt_12 : decode cX7_headsAt 12 = .ok (.getfield 21, 3) := by decide +kernel
theorem dX7_headsAt_15 : decode cX7_headsAt 15 = .ok (.iload_n 1, 1) := by decide +kernel
theorem dX7_headsAt_16 : decode cX7_headsAt 16 = .ok (.iaload, 1) := by decide +kernel
theorem dX7_headsAt_17 : decode cX7_headsAt 17 = .ok (.goto 4, 3) := by decide +kernel
theorem dX7_headsAt_20 : decode cX7_headsAt 20 = .ok (.iconst 0, 1) := by decide +kernel
theorem dX7_headsAt_21 : decode cX7_headsAt 21 = .ok (.ireturn, 1) := by decide +kernel
def wW_k_X7_headsAt (ty : Nat → ClassId) (h0 : Nat) (r1 : Nat) (r2 : Nat) (r3 : Nat) (r4 : Nat) (r5 : Nat) (r6 : Nat) (z9_0 : Int32) (z9_1 : Nat → Int32) : va_W := [(h0, .inr (9, [.ref r1, .ref r2, .ref r3, .ref r4, .ref r5, .ref r6, .int z9_0])), (r4, .inl (ty 0, 300, .inl z9_1))]
def vs_k_X7_headsAt : List Cond := .code yX7_headsAt cX7_headsAt 2 (some .int) :: ([.fieldLink RX7 21 "AnswerFold$Rows" "heads" "[I"] ++ (u_ws RX7 TX7 7))
theorem iv_k_X7_headsAt_X7 : ∀ w ∈ u_ws RX7 TX7 7, w ∈ vs_k_X7_headsAt := (fun _ h => List.mem_cons_of_mem _ (List.mem_append_right _ (h)))
set_option maxHeartbeats 4000000 in
set_option maxRecDepth 100000 in
theorem k_X7_headsAt (l : Launch) (D : va_G) (ty : Nat → ClassId) (td mi sz : Nat) (h0 : Nat) (r1 : Nat) (r2 : Nat) (r3 : Nat) (r4 : Nat) (r5 : Nat) (r6 : Nat) (rc : Int32) (f4 : Nat → Int32) (a1 : Int32) (TT : r_k_X7_headsAt) (hTT : TT = m_k_X7_headsAt f4 a1) : Met l yX7_headsAt vs_k_X7_headsAt { frames := 0, cells := 0, slots := 0, locals := 0 } (va_Pc [.ref h0, .int a1] (wq_P D ty td mi (wW_k_X7_headsAt ty h0 r1 r2 r3 r4 r5 r6 rc f4) sz)) (va_Qi (fun (r : Int32) (u : va_W) => (r = TT ∧ (u = (wW_k_X7_headsAt ty h0 r1 r2 r3 r4 r5 r6 rc f4)))) (wq_B D (va_A (wW_k_X7_headsAt ty h0 r1 r2 r3 r4 r5 r6 rc f4) sz)) (va_A (wW_k_X7_headsAt ty h0 r1 r2 r3 r4 r5 r6 rc f4) sz)) 0 0 (va_A (wW_k_X7_headsAt ty h0 r1 r2 r3 r4 r5 r6 rc f4) sz) := by
  refine Met.ofW (cc := cX7_headsAt) (maxL := 2) (ret := (some .int)) (by decide) rfl ?_
  intro p e s m args below meth c s₁ B hml hv
  obtain ⟨rfl, hsz, hP, hK, hD0, hE⟩ := hv
  have hx := B.exec
  have hb := B.bytes
  have hr := B.returns
  have hts := atoms_spec (ws := vs_k_X7_headsAt) B.pre
  have hown : s.vm.findClass RX7 = some m.cls := findClass_of_methodNamed B.named
  have hlocks := B.notSynchronized
  subst hsz
  have hD := hD0.self (sz := s.heap.size)
  generalize hAe : va_A (wW_k_X7_headsAt ty h0 r1 r2 r3 r4 r5 r6 rc f4) s.heap.size = A at hD hE ⊢
  have hA : ∀ q : Nat, s.heap.size ≤ q → A q := fun q h => by rw [← hAe]; exact Or.inr h
  have hS : va_S A s.heap s.heap [] := va_S.rf
  have hP : va_P D vwCl (wW_k_X7_headsAt ty h0 r1 r2 r3 r4 r5 r6 rc f4) s.heap := hP
  have hl := lv_entry ([.ref h0, .int a1]) (n := 2) (Nat.le_of_ble_eq_true rfl)
  rw [lg_entry_eq]
  generalize (lg_sl ([.ref h0, .int a1]) ++ List.replicate (2 - (lg_sl ([.ref h0, .int a1])).length) Slot.unset).toArray = ls at hl ⊢
  have hl : lv_has ls 2 [(0, .ref h0), (1, .int a1)] := hl
  have END : ∀ (r : Int32), TT = r → ∀ (H : Heap) (locs : List Loc), va_P D vwCl (wW_k_X7_headsAt ty h0 r1 r2 r3 r4 r5 r6 rc f4) H → va_D A (wW_k_X7_headsAt ty h0 r1 r2 r3 r4 r5 r6 rc f4) → va_S A s.heap H locs → ∀ (ls : Array Slot) (pc : Nat), decode cX7_headsAt pc = .ok (.ireturn, 1) → W p l e (headSpec vs_k_X7_headsAt { frames := 0, cells := 0, slots := 0, locals := 0 }).room s m ([.ref h0, .int a1] : List Value).toArray below meth c H locs 0 0 (MQ below (va_Qi (fun (r : Int32) (u : va_W) => (r = TT ∧ (u = (wW_k_X7_headsAt ty h0 r1 r2 r3 r4 r5 r6 rc f4)))) (wq_B D A) A) ([.ref h0, .int a1] : List Value).toArray s 0 0 A) (F0 m pc ls [.int r]) := by
    intro r hT H locs hP hD hS ls pc hd
    have hM : TT = r := hT
    exact W.iret (v := r) hx hb hr (fun t ht hW => ⟨⟨r, (wW_k_X7_headsAt ty h0 r1 r2 r3 r4 r5 r6 rc f4), rfl, ⟨(by rw [hM]), rfl⟩, wq_B.of ht hP hD⟩, hS.F ht⟩) hS.2.2 hd
  have hT := hTT
  rw [m_k_X7_headsAt] at hT
  refine lv_iload_n hx hb dX7_headsAt_0 rfl (lv_at hl 1 rfl) ?_
  refine lv_if_lt (tgt := 20) hx hb dX7_headsAt_1 (by decide) (fun c_1 => ?_) (fun c_1 => ?_)
  · rw [if_pos c_1] at hT
    refine lv_iconst (v := 0) hx hb dX7_headsAt_20 (by decide) ?_
    exact END 0 hT _ _ hP hD hS _ _ dX7_headsAt_21
  · rw [if_neg c_1] at hT
    refine lv_iload_n hx hb dX7_headsAt_4 rfl (lv_at hl 1 rfl) ?_
    refine lv_sipush (v := 300) hx hb dX7_headsAt_5 (by decide) ?_
    refine lv_icmp_ge (tgt := 20) hx hb dX7_headsAt_8 (by decide) (fun c_2 => ?_) (fun c_2 => ?_)
    · rw [if_pos c_2] at hT
      refine lv_iconst (v := 0) hx hb dX7_headsAt_20 (by decide) ?_
      exact END 0 hT _ _ hP hD hS _ _ dX7_headsAt_21
    · rw [if_neg c_2] at hT
      refine lv_aload_n hx hb dX7_headsAt_11 rfl (lv_at hl 0 rfl) ?_
      refine va_get (D := D) (ci := 9) (v := .ref r4) (C := RX7) (T := TX7) (N := 7) hx hb hts iv_k_X7_headsAt_X7 hown hK hP 0 rfl rfl 3 (by decide) (hts (.fieldLink RX7 21 "AnswerFold$Rows" "heads" "[I") (by decide +kernel)) (fun _ h9 => h9) rfl dX7_headsAt_12 ?_
      refine lv_iload_n hx hb dX7_headsAt_15 rfl (lv_at hl 1 rfl) ?_
      refine va_iald (D := D) hx hb hK hP 1 0 rfl rfl (wi_in (wi_lo c_1) (wi_hi c_2 (by decide))) dX7_headsAt_16 ?_
      refine lv_goto (tgt := 21) hx hb dX7_headsAt_17 (by decide) ?_
      exact END (f4 a1.toNatClampNeg) hT _ _ hP hD hS _ _ dX7_headsAt_21
theorem dX7_bodyHolds_0 : decode cX7_bodyHolds 0 = .ok (.iload_n 1, 1) := by decide +kernel
theorem dX7_bodyHolds_1 : decode cX7_bodyHolds 1 = .ok (.ifCond .lt 10, 3) := by decide +kernel
theorem dX7_bodyHolds_4 : decode cX7_bodyHolds 4 = .ok (.iload_n 1, 1) := by decide +kernel
theorem dX7_bodyHolds_5 : decode cX7_bodyHolds 5 = .ok (.sipush 300, 3) := by decide +kernel
theorem dX7_bodyHolds_8 : decode cX7_bodyHolds 8 = .ok (.if_icmp .lt 5, 3) := by decide +kernel
theorem dX7_bodyHolds_11 : decode cX7_bodyHolds 11 = .ok (.iconst 0, 1) := by decide +kernel
theorem dX7_bodyHolds_12 : decode cX7_bodyHolds 12 = .ok (.ireturn, 1) := by decide +kernel
theorem dX7_bodyHolds_13 : decode cX7_bodyHolds 13 = .ok (.iload_n 2, 1) := by decide +kernel
theorem dX7_bodyHolds_14 : decode cX7_bodyHolds 14 = .ok (.aload_n 0, 1) := by decide +kernel
theorem dX7_bodyHolds_15 : decode cX7_bodyHolds 15 = .ok (.getfield 15, 3) := by decide +kernel
theorem dX7_bodyHolds_18 : decode cX7_bodyHolds 18 = .ok (.iload_n 1, 1) := by decide +kernel
theorem dX7_bodyHolds_19 : decode cX7_bodyHolds 19 = .ok (.iaload, 1) := by decide +kernel
theorem dX7_bodyHolds_20 : decode cX7_bodyHolds 20 = .ok (.iand, 1) := by decide +kernel
theorem dX7_bodyHolds_21 : decode cX7_bodyHolds 21 = .ok (.aload_n 0, 1) := by decide +kernel
theorem dX7_bodyHolds_22 : decode cX7_bodyHolds 22 = .ok (.getfield 15, 3) := by decide +kernel
theorem dX7_bodyHolds_25 : decode cX7_bodyHolds 25 = .ok (.iload_n 1, 1) := by decide +kernel
theorem dX7_bodyHolds_26 : decode cX7_bodyHolds 26 = .ok (.iaload, 1) := by decide +kernel
theorem dX7_bodyHolds_27 : decode cX7_bodyHolds 27 = .ok (.if_icmp .ne 31, 3) := by decide +kernel
theorem dX7_bodyHolds_30 : decode cX7_bodyHolds 30 = .ok (.iload_n 2, 1) := by decide +kernel
theorem dX7_bodyHolds_31 : decode cX7_bodyHolds 31 = .ok (.aload_n 0, 1) := by decide +kernel
theorem dX7_bodyHolds_32 : decode cX7_bodyHolds 32 = .ok (.getfield 18, 3) := by decide +kernel
theorem dX7_bodyHolds_35 : decode cX7_bodyHolds 35 = .ok (.iload_n 1, 1) := by decide +kernel
theorem dX7_bodyHolds_36 : decode cX7_bodyHolds 36 = .ok (.iaload, 1) := by decide +kernel
theorem dX7_bodyHolds_37 : decode cX7_bodyHolds 37 = .ok (.iand, 1) := by decide +kernel
theorem dX7_bodyHolds_38 : decode cX7_bodyHolds 38 = .ok (.ifCond .ne 20, 3) := by decide +kernel
theorem dX7_bodyHolds_41 : decode cX7_bodyHolds 41 = .ok (.iload_n 3, 1) := by decide +kernel
theorem dX7_bodyHolds_42 : decode cX7_bodyHolds 42 = .ok (.aload_n 0, 1) := by decide +kernel
theorem dX7_bodyHolds_43 : decode cX7_bodyHolds 43 = .ok (.getfield 9, 3) := by decide +kernel
theorem dX7_bodyHolds_46 : decode cX7_bodyHolds 46 = .ok (.iload_n 1, 1) := by decide +kernel
theorem dX7_bodyHolds_47 : decode cX7_bodyHolds 47 = .ok (.iaload, 1) := by decide +kernel
theorem dX7_bodyHolds_48 : decode cX7_bodyHolds 48 = .ok (.ishr, 1) := by decide +kernel
theorem dX7_bodyHolds_49 : decode cX7_bodyHolds 49 = .ok (.iconst 1, 1) := by decide +kernel
theorem dX7_bodyHolds_50 : decode cX7_bodyHolds 50 = .ok (.iand, 1) := by decide +kernel
theorem dX7_bodyHolds_51 : decode cX7_bodyHolds 51 = .ok (.ifCond .eq 7, 3) := by decide +kernel
theorem dX7_bodyHolds_54 : decode cX7_bodyHolds 54 = .ok (.iconst 1, 1) := by decide +kernel
theorem dX7_bodyHolds_55 : decode cX7_bodyHolds 55 = .ok (.goto 4, 3) := by decide +kernel
theorem dX7_bodyHolds_58 : decode cX7_bodyHolds 58 = .ok (.iconst 0, 1) := by decide +kernel
theorem dX7_bodyHolds_59 : decode cX7_bodyHolds 59 = .ok (.ireturn, 1) := by decide +kernel
def wW_k_X7_bodyHolds (ty : Nat → ClassId) (h0 : Nat) (r1 : Nat) (r2 : Nat) (r3 : Nat) (r4 : Nat) (r5 : Nat) (r6 : Nat) (z9_0 : Int32) (z9_1 : Nat → Int32) (z9_2 : Nat → Int32) (z9_3 : Nat → Int32) : va_W := [(h0, .inr (9, [.ref r1, .ref r2, .ref r3, .ref r4, .ref r5, .ref r6, .int z9_0])), (r1, .inl (ty 0, 300, .inl z9_1)), (r2, .inl (ty 0, 300, .inl z9_2)), (r3, .inl (ty 0, 300, .inl z9_3))]
def vs_k_X7_bodyHolds : List Cond := .code yX7_bodyHolds cX7_bodyHolds 4 (some .boolean) :: ([.fieldLink RX7 15 "AnswerFold$Rows" "needs" "[I", .fieldLink RX7 18 "AnswerFold$Rows" "bars" "[I", .fieldLink RX7 9 "AnswerFold$Rows" "rules" "[I"] ++ (u_ws RX7 TX7 7))
theorem iv_k_X7_bodyHolds_X7 : ∀ w ∈ u_ws RX7 TX7 7, w ∈ vs_k_X7_bodyHolds := (fun _ h => List.mem_cons_of_mem _ (List.mem_append_right _ (h)))
set_option maxHeartbeats 4000000 in
set_option maxRecDepth 100000 in
theorem k_X7_bodyHolds (l : Launch) (D : va_G) (ty : Nat → ClassId) (td mi sz : Nat) (h0 : Nat) (r1 : Nat) (r2 : Nat) (r3 : Nat) (r4 : Nat) (r5 : Nat) (r6 : Nat) (rc : Int32) (f1 : Nat → Int32) (f2 : Nat → Int32) (f3 : Nat → Int32) (a1 : Int32) (a2 : Int32) (a3 : Int32) (TT : r_k_X7_bodyHolds) (hTT : TT = m_k_X7_bodyHolds f1 f2 f3 a1 a2 a3) : Met l yX7_bodyHolds vs_k_X7_bodyHolds { frames := 0, cells := 0, slots := 0, locals := 0 } (va_Pc [.ref h0, .int a1, .int a2, .int a3] (wq_P D ty td mi (wW_k_X7_bodyHolds ty h0 r1 r2 r3 r4 r5 r6 rc f1 f2 f3) sz)) (va_Qi (fun (r : Int32) (u : va_W) => (r = TT ∧ (TT = 0 ∨ TT = 1) ∧ (u = (wW_k_X7_bodyHolds ty h0 r1 r2 r3 r4 r5 r6 rc f1 f2 f3)))) (wq_B D (va_A (wW_k_X7_bodyHolds ty h0 r1 r2 r3 r4 r5 r6 rc f1 f2 f3) sz)) (va_A (wW_k_X7_bodyHolds ty h0 r1 r2 r3 r4 r5 r6 rc f1 f2 f3) sz)) 0 0 (va_A (wW_k_X7_bodyHolds ty h0 r1 r2 r3 r4 r5 r6 rc f1 f2 f3) sz) := by
  refine Met.ofW (cc := cX7_bodyHolds) (maxL := 4) (ret := (some .boolean)) (by decide) rfl ?_
  intro p e s m args below meth c s₁ B hml hv
  obtain ⟨rfl, hsz, hP, hK, hD0, hE⟩ := hv
  have hx := B.exec
  have hb := B.bytes
  have hr := B.returns
  have hts := atoms_spec (ws := vs_k_X7_bodyHolds) B.pre
  have hown : s.vm.findClass RX7 = some m.cls := findClass_of_methodNamed B.named
  have hlocks := B.notSynchronized
  subst hsz
  have hD := hD0.self (sz := s.heap.size)
  generalize hAe : va_A (wW_k_X7_bodyHolds ty h0 r1 r2 r3 r4 r5 r6 rc f1 f2 f3) s.heap.size = A at hD hE ⊢
  have hA : ∀ q : Nat, s.heap.size ≤ q → A q := fun q h => by rw [← hAe]; exact Or.inr h
  have hS : va_S A s.heap s.heap [] := va_S.rf
  have hP : va_P D vwCl (wW_k_X7_bodyHolds ty h0 r1 r2 r3 r4 r5 r6 rc f1 f2 f3) s.heap := hP
  have hl := lv_entry ([.ref h0, .int a1, .int a2, .int a3]) (n := 4) (Nat.le_of_ble_eq_true rfl)
  rw [lg_entry_eq]
  generalize (lg_sl ([.ref h0, .int a1, .int a2, .int a3]) ++ List.replicate (4 - (lg_sl ([.ref h0, .int a1, .int a2, .int a3])).length) Slot.unset).toArray = ls at hl ⊢
  have hl : lv_has ls 4 [(0, .ref h0), (1, .int a1), (2, .int a2), (3, .int a3)] := hl
  have END : ∀ (r : Int32), TT = r → (r = 0 ∨ r = 1) → ∀ (H : Heap) (locs : List Loc), va_P D vwCl (wW_k_X7_bodyHolds ty h0 r1 r2 r3 r4 r5 r6 rc f1 f2 f3) H → va_D A (wW_k_X7_bodyHolds ty h0 r1 r2 r3 r4 r5 r6 rc f1 f2 f3) → va_S A s.heap H locs → ∀ (ls : Array Slot) (pc : Nat), decode cX7_bodyHolds pc = .ok (.ireturn, 1) → W p l e (headSpec vs_k_X7_bodyHolds { frames := 0, cells := 0, slots := 0, locals := 0 }).room s m ([.ref h0, .int a1, .int a2, .int a3] : List Value).toArray below meth c H locs 0 0 (MQ below (va_Qi (fun (r : Int32) (u : va_W) => (r = TT ∧ (TT = 0 ∨ TT = 1) ∧ (u = (wW_k_X7_bodyHolds ty h0 r1 r2 r3 r4 r5 r6 rc f1 f2 f3)))) (wq_B D A) A) ([.ref h0, .int a1, .int a2, .int a3] : List Value).toArray s 0 0 A) (F0 m pc ls [.int r]) := by
    intro r hT hb01 H locs hP hD hS ls pc hd
    have hM : TT = r := hT
    exact W.zret (v := r) hx hb hr (wz_nar hb01) (fun t ht hW => ⟨⟨r, (wW_k_X7_bodyHolds ty h0 r1 r2 r3 r4 r5 r6 rc f1 f2 f3), rfl, ⟨(by rw [hM]), (by rw [hM]; exact hb01), rfl⟩, wq_B.of ht hP hD⟩, hS.F ht⟩) hS.2.2 hd
  have hT := hTT
  rw [m_k_X7_bodyHolds] at hT
  refine lv_iload_n hx hb dX7_bodyHolds_0 rfl (lv_at hl 1 rfl) ?_
  refine lv_if_lt (tgt := 11) hx hb dX7_bodyHolds_1 (by decide) (fun c_1 => ?_) (fun c_1 => ?_)
  · rw [if_pos c_1] at hT
    refine lv_iconst (v := 0) hx hb dX7_bodyHolds_11 (by decide) ?_
    exact END 0 hT (by decide) _ _ hP hD hS _ _ dX7_bodyHolds_12
  · rw [if_neg c_1] at hT
    refine lv_iload_n hx hb dX7_bodyHolds_4 rfl (lv_at hl 1 rfl) ?_
    refine lv_sipush (v := 300) hx hb dX7_bodyHolds_5 (by decide) ?_
    refine lv_icmp_lt (tgt := 13) hx hb dX7_bodyHolds_8 (by decide) (fun c_2 => ?_) (fun c_2 => ?_)
    · rw [if_pos c_2] at hT
      refine lv_iload_n hx hb dX7_bodyHolds_13 rfl (lv_at hl 2 rfl) ?_
      refine lv_aload_n hx hb dX7_bodyHolds_14 rfl (lv_at hl 0 rfl) ?_
      refine va_get (D := D) (ci := 9) (v := .ref r2) (C := RX7) (T := TX7) (N := 7) hx hb hts iv_k_X7_bodyHolds_X7 hown hK hP 0 rfl rfl 1 (by decide) (hts (.fieldLink RX7 15 "AnswerFold$Rows" "needs" "[I") (by decide +kernel)) (fun _ h9 => h9) rfl dX7_bodyHolds_15 ?_
      refine lv_iload_n hx hb dX7_bodyHolds_18 rfl (lv_at hl 1 rfl) ?_
      refine va_iald (D := D) hx hb hK hP 2 0 rfl rfl (wi_in (wi_lo c_1) (wi_hi (Int32.not_le.mpr c_2) (by decide))) dX7_bodyHolds_19 ?_
      refine lv_iand hx hb dX7_bodyHolds_20 ?_
      refine lv_aload_n hx hb dX7_bodyHolds_21 rfl (lv_at hl 0 rfl) ?_
      refine va_get (D := D) (ci := 9) (v := .ref r2) (C := RX7) (T := TX7) (N := 7) hx hb hts iv_k_X7_bodyHolds_X7 hown hK hP 0 rfl rfl 1 (by decide) (hts (.fieldLink RX7 15 "AnswerFold$Rows" "needs" "[I") (by decide +kernel)) (fun _ h9 => h9) rfl dX7_bodyHolds_22 ?_
      refine lv_iload_n hx hb dX7_bodyHolds_25 rfl (lv_at hl 1 rfl) ?_
      refine va_iald (D := D) hx hb hK hP 2 0 rfl rfl (wi_in (wi_lo c_1) (wi_hi (Int32.not_le.mpr c_2) (by decide))) dX7_bodyHolds_26 ?_
      refine lv_icmp_ne (tgt := 58) hx hb dX7_bodyHolds_27 (by decide) (fun c_3 => ?_) (fun c_3 => ?_)
      · rw [if_neg c_3] at hT
        refine lv_iconst (v := 0) hx hb dX7_bodyHolds_58 (by decide) ?_
        exact END 0 hT (by decide) _ _ hP hD hS _ _ dX7_bodyHolds_59
      · rw [if_pos c_3] at hT
        refine lv_iload_n hx hb dX7_bodyHolds_30 rfl (lv_at hl 2 rfl) ?_
        refine lv_aload_n hx hb dX7_bodyHolds_31 rfl (lv_at hl 0 rfl) ?_
        refine va_get (D := D) (ci := 9) (v := .ref r3) (C := RX7) (T := TX7) (N := 7) hx hb hts iv_k_X7_bodyHolds_X7 hown hK hP 0 rfl rfl 2 (by decide) (hts (.fieldLink RX7 18 "AnswerFold$Rows" "bars" "[I") (by decide +kernel)) (fun _ h9 => h9) rfl dX7_bodyHolds_32 ?_
        refine lv_iload_n hx hb dX7_bodyHolds_35 rfl (lv_at hl 1 rfl) ?_
        refine va_iald (D := D) hx hb hK hP 3 0 rfl rfl (wi_in (wi_lo c_1) (wi_hi (Int32.not_le.mpr c_2) (by decide))) dX7_bodyHolds_36 ?_
        refine lv_iand hx hb dX7_bodyHolds_37 ?_
        refine lv_if_ne (tgt := 58) hx hb dX7_bodyHolds_38 (by decide) (fun c_4 => ?_) (fun c_4 => ?_)
        · rw [if_neg c_4] at hT
          refine lv_iconst (v := 0) hx hb dX7_bodyHolds_58 (by decide) ?_
          exact END 0 hT (by decide) _ _ hP hD hS _ _ dX7_bodyHolds_59
        · rw [if_pos c_4] at hT
          refine lv_iload_n hx hb dX7_bodyHolds_41 rfl (lv_at hl 3 rfl) ?_
          refine lv_aload_n hx hb dX7_bodyHolds_42 rfl (lv_at hl 0 rfl) ?_
          refine va_get (D := D) (ci := 9) (v := .ref r1) (C := RX7) (T := TX7) (N := 7) hx hb hts iv_k_X7_bodyHolds_X7 hown hK hP 0 rfl rfl 0 (by decide) (hts (.fieldLink RX7 9 "AnswerFold$Rows" "rules" "[I") (by decide +kernel)) (fun _ h9 => h9) rfl dX7_bodyHolds_43 ?_
          refine lv_iload_n hx hb dX7_bodyHolds_46 rfl (lv_at hl 1 rfl) ?_
          refine va_iald (D := D) hx hb hK hP 1 0 rfl rfl (wi_in (wi_lo c_1) (wi_hi (Int32.not_le.mpr c_2) (by decide))) dX7_bodyHolds_47 ?_
          refine lv_ishr hx hb dX7_bodyHolds_48 ?_
          refine lv_iconst (v := 1) hx hb dX7_bodyHolds_49 (by decide) ?_
          refine lv_iand hx hb dX7_bodyHolds_50 ?_
          refine lv_if_eq (tgt := 58) hx hb dX7_bodyHolds_51 (by decide) (fun c_5 => ?_) (fun c_5 => ?_)
          · rw [if_pos c_5] at hT
            refine lv_iconst (v := 0) hx hb dX7_bodyHolds_58 (by decide) ?_
            exact END 0 hT (by decide) _ _ hP hD hS _ _ dX7_bodyHolds_59
          · rw [if_neg c_5] at hT
            refine lv_iconst (v := 1) hx hb dX7_bodyHolds_54 (by decide) ?_
            refine lv_goto (tgt := 59) hx hb dX7_bodyHolds_55 (by decide) ?_
            exact END 1 hT (by decide) _ _ hP hD hS _ _ dX7_bodyHolds_59
    · rw [if_neg c_2] at hT
      refine lv_iconst (v := 0) hx hb dX7_bodyHolds_11 (by decide) ?_
      exact END 0 hT (by decide) _ _ hP hD hS _ _ dX7_bodyHolds_12
theorem dJ6_bitCount_0f7a4_0 : decode cJ6_bitCount_0f7a4 0 = .ok (.iload_n 0, 1) := by decide +kernel
theorem dJ6_bitCount_0f7a4_1 : decode cJ6_bitCount_0f7a4 1 = .ok (.iload_n 0, 1) := by decide +kernel
theorem dJ6_bitCount_0f7a4_2 : decode cJ6_bitCount_0f7a4 2 = .ok (.iconst 1, 1) := by decide +kernel
theorem dJ6_bitCount_0f7a4_3 : decode cJ6_bitCount_0f7a4 3 = .ok (.iushr, 1) := by decide +kernel
theorem dJ6_bitCount_0f7a4_4 : decode cJ6_bitCount_0f7a4 4 = .ok (.ldc_w 265, 3) := by decide +kernel
theorem dJ6_bitCount_0f7a4_7 : decode cJ6_bitCount_0f7a4 7 = .ok (.iand, 1) := by decide +kernel
theorem dJ6_bitCount_0f7a4_8 : decode cJ6_bitCount_0f7a4 8 = .ok (.isub, 1) := by decide +kernel
theorem dJ6_bitCount_0f7a4_9 : decode cJ6_bitCount_0f7a4 9 = .ok (.istore_n 0, 1) := by decide +kernel
theorem dJ6_bitCount_0f7a4_10 : decode cJ6_bitCount_0f7a4 10 = .ok (.iload_n 0, 1) := by decide +kernel
theorem dJ6_bitCount_0f7a4_11 : decode cJ6_bitCount_0f7a4 11 = .ok (.ldc_w 266, 3) := by decide +kernel
theorem dJ6_bitCount_0f7a4_14 : decode cJ6_bitCount_0f7a4 14 = .ok (.iand, 1) := by decide +kernel
theorem dJ6_bitCount_0f7a4_15 : decode cJ6_bitCount_0f7a4 15 = .ok (.iload_n 0, 1) := by decide +kernel
theorem dJ6_bitCount_0f7a4_16 : decode cJ6_bitCount_0f7a4 16 = .ok (.iconst 2, 1) := by decide +kernel
theorem dJ6_bitCount_0f7a4_17 : decode cJ6_bitCount_0f7a4 17 = .ok (.iushr, 1) := by decide +kernel
theorem dJ6_bitCount_0f7a4_18 : decode cJ6_bitCount_0f7a4 18 = .ok (.ldc_w 266, 3) := by decide +kernel
theorem dJ6_bitCount_0f7a4_21 : decode cJ6_bitCount_0f7a4 21 = .ok (.iand, 1) := by decide +kernel
theorem dJ6_bitCount_0f7a4_22 : decode cJ6_bitCount_0f7a4 22 = .ok (.iadd, 1) := by decide +kernel
theorem dJ6_bitCount_0f7a4_23 : decode cJ6_bitCount_0f7a4 23 = .ok (.istore_n 0, 1) := by decide +kernel
theorem dJ6_bitCount_0f7a4_24 : decode cJ6_bitCount_0f7a4 24 = .ok (.iload_n 0, 1) := by decide +kernel
theorem dJ6_bitCount_0f7a4_25 : decode cJ6_bitCount_0f7a4 25 = .ok (.iload_n 0, 1) := by decide +kernel
theorem dJ6_bitCount_0f7a4_26 : decode cJ6_bitCount_0f7a4 26 = .ok (.iconst 4, 1) := by decide +kernel
theorem dJ6_bitCount_0f7a4_27 : decode cJ6_bitCount_0f7a4 27 = .ok (.iushr, 1) := by decide +kernel
theorem dJ6_bitCount_0f7a4_28 : decode cJ6_bitCount_0f7a4 28 = .ok (.iadd, 1) := by decide +kernel
theorem dJ6_bitCount_0f7a4_29 : decode cJ6_bitCount_0f7a4 29 = .ok (.ldc_w 267, 3) := by decide +kernel
theorem dJ6_bitCount_0f7a4_32 : decode cJ6_bitCount_0f7a4 32 = .ok (.iand, 1) := by decide +kernel
theorem dJ6_bitCount_0f7a4_33 : decode cJ6_bitCount_0f7a4 33 = .ok (.istore_n 0, 1) := by decide +kernel
theorem dJ6_bitCount_0f7a4_34 : decode cJ6_bitCount_0f7a4 34 = .ok (.iload_n 0, 1) := by decide +kernel
theorem dJ6_bitCount_0f7a4_35 : decode cJ6_bitCount_0f7a4 35 = .ok (.iload_n 0, 1) := by decide +kernel
theorem dJ6_bitCount_0f7a4_36 : decode cJ6_bitCount_0f7a4 36 = .ok (.bipush 8, 2) := by decide +kernel
theorem dJ6_bitCount_0f7a4_38 : decode cJ6_bitCount_0f7a4 38 = .ok (.iushr, 1) := by decide +kernel
theorem dJ6_bitCount_0f7a4_39 : decode cJ6_bitCount_0f7a4 39 = .ok (.iadd, 1) := by decide +kernel
theorem dJ6_bitCount_0f7a4_40 : decode cJ6_bitCount_0f7a4 40 = .ok (.istore_n 0, 1) := by decide +kernel
theorem dJ6_bitCount_0f7a4_41 : decode cJ6_bitCount_0f7a4 41 = .ok (.iload_n 0, 1) := by decide +kernel
theorem dJ6_bitCount_0f7a4_42 : decode cJ6_bitCount_0f7a4 42 = .ok (.iload_n 0, 1) := by decide +kernel
theorem dJ6_bitCount_0f7a4_43 : decode cJ6_bitCount_0f7a4 43 = .ok (.bipush 16, 2) := by decide +kernel
theorem dJ6_bitCount_0f7a4_45 : decode cJ6_bitCount_0f7a4 45 = .ok (.iushr, 1) := by decide +kernel
theorem dJ6_bitCount_0f7a4_46 : decode cJ6_bitCount_0f7a4 46 = .ok (.iadd, 1) := by decide +kernel
theorem dJ6_bitCount_0f7a4_47 : decode cJ6_bitCount_0f7a4 47 = .ok (.istore_n 0, 1) := by decide +kernel
theorem dJ6_bitCount_0f7a4_48 : decode cJ6_bitCount_0f7a4 48 = .ok (.iload_n 0, 1) := by decide +kernel
theorem dJ6_bitCount_0f7a4_49 : decode cJ6_bitCount_0f7a4 49 = .ok (.bipush 63, 2) := by decide +kernel
theorem dJ6_bitCount_0f7a4_51 : decode cJ6_bitCount_0f7a4 51 = .ok (.iand, 1) := by decide +kernel
theorem dJ6_bitCount_0f7a4_52 : decode cJ6_bitCount_0f7a4 52 = .ok (.ireturn, 1) := by decide +kernel
def vs_k_J6_bitCount_0f7a4 : List Cond := .code yJ6_bitCount_0f7a4 cJ6_bitCount_0f7a4 1 (some .int) :: ([.constant RJ6 265 1431655765, .constant RJ6 266 858993459, .constant RJ6 267 252645135])
set_option maxHeartbeats 4000000 in
set_option maxRecDepth 100000 in
theorem k_J6_bitCount_0f7a4 (l : Launch) (D : va_G) (ty : Nat → ClassId) (td mi sz : Nat) (a1 : Int32) (TT : r_k_J6_bitCount_0f7a4) (hTT : TT = m_k_J6_bitCount_0f7a4 a1) : Met l yJ6_bitCount_0f7a4 vs_k_J6_bitCount_0f7a4 { frames := 0, cells := 0, slots := 0, locals := 0 } (va_Pc [.int a1] (wq_P D ty td mi [] sz)) (va_Qi (fun (r : Int32) (u : va_W) => (r = TT ∧ (u = []))) (wq_B D (va_A [] sz)) (va_A [] sz)) 0 0 (va_A [] sz) := by
  refine Met.ofW (cc := cJ6_bitCount_0f7a4) (maxL := 1) (ret := (some .int)) (by decide) rfl ?_
  intro p e s m args below meth c s₁ B hml hv
  obtain ⟨rfl, hsz, hP, hK, hD0, hE⟩ := hv
  have hx := B.exec
  have hb := B.bytes
  have hr := B.returns
  have hts := atoms_spec (ws := vs_k_J6_bitCount_0f7a4) B.pre
  have hown : s.vm.findClass RJ6 = some m.cls := findClass_of_methodNamed B.named
  have hlocks := B.notSynchronized
  subst hsz
  have hD := hD0.self (sz := s.heap.size)
  generalize hAe : va_A [] s.heap.size = A at hD hE ⊢
  have hA : ∀ q : Nat, s.heap.size ≤ q → A q := fun q h => by rw [← hAe]; exact Or.inr h
  have hS : va_S A s.heap s.heap [] := va_S.rf
  have hP : va_P D vwCl [] s.heap := hP
  have hl := lv_entry ([.int a1]) (n := 1) (Nat.le_of_ble_eq_true rfl)
  rw [lg_entry_eq]
  generalize (lg_sl ([.int a1]) ++ List.replicate (1 - (lg_sl ([.int a1])).length) Slot.unset).toArray = ls at hl ⊢
  have hl : lv_has ls 1 [(0, .int a1)] := hl
  have END : ∀ (r : Int32), TT = r → ∀ (H : Heap) (locs : List Loc), va_P D vwCl [] H → va_D A [] → va_S A s.heap H locs → ∀ (ls : Array Slot) (pc : Nat), decode cJ6_bitCount_0f7a4 pc = .ok (.ireturn, 1) → W p l e (headSpec vs_k_J6_bitCount_0f7a4 { frames := 0, cells := 0, slots := 0, locals := 0 }).room s m ([.int a1] : List Value).toArray below meth c H locs 0 0 (MQ below (va_Qi (fun (r : Int32) (u : va_W) => (r = TT ∧ (u = []))) (wq_B D A) A) ([.int a1] : List Value).toArray s 0 0 A) (F0 m pc ls [.int r]) := by
    intro r hT H locs hP hD hS ls pc hd
    have hM : TT = r := hT
    exact W.iret (v := r) hx hb hr (fun t ht hW => ⟨⟨r, [], rfl, ⟨(by rw [hM]), rfl⟩, wq_B.of ht hP hD⟩, hS.F ht⟩) hS.2.2 hd
  have hT := hTT
  rw [m_k_J6_bitCount_0f7a4] at hT
  refine lv_iload_n hx hb dJ6_bitCount_0f7a4_0 rfl (lv_at hl 0 rfl) ?_
  refine lv_iload_n hx hb dJ6_bitCount_0f7a4_1 rfl (lv_at hl 0 rfl) ?_
  refine lv_iconst (v := 1) hx hb dJ6_bitCount_0f7a4_2 (by decide) ?_
  refine lv_iushr hx hb dJ6_bitCount_0f7a4_3 rfl ?_
  refine lv_ldcw (v := 1431655765) hx hb hown (hts (.constant RJ6 265 1431655765) (by decide +kernel)) dJ6_bitCount_0f7a4_4 ?_
  refine lv_iand hx hb dJ6_bitCount_0f7a4_7 ?_
  refine lv_isub hx hb dJ6_bitCount_0f7a4_8 ?_
  refine lv_istore_n (lv' := [(0, .int (a1 - (((a1.toUInt32 >>> ((1 : Int32).toUInt32 &&& Int32.toUInt32 31)).toInt32) &&& 1431655765)))]) hx hb dJ6_bitCount_0f7a4_9 rfl hl (by decide) rfl (fun ls hl => ?_)
  refine lv_iload_n hx hb dJ6_bitCount_0f7a4_10 rfl (lv_at hl 0 rfl) ?_
  refine lv_ldcw (v := 858993459) hx hb hown (hts (.constant RJ6 266 858993459) (by decide +kernel)) dJ6_bitCount_0f7a4_11 ?_
  refine lv_iand hx hb dJ6_bitCount_0f7a4_14 ?_
  refine lv_iload_n hx hb dJ6_bitCount_0f7a4_15 rfl (lv_at hl 0 rfl) ?_
  refine lv_iconst (v := 2) hx hb dJ6_bitCount_0f7a4_16 (by decide) ?_
  refine lv_iushr hx hb dJ6_bitCount_0f7a4_17 rfl ?_
  refine lv_ldcw (v := 858993459) hx hb hown (hts (.constant RJ6 266 858993459) (by decide +kernel)) dJ6_bitCount_0f7a4_18 ?_
  refine lv_iand hx hb dJ6_bitCount_0f7a4_21 ?_
  refine lv_iadd hx hb dJ6_bitCount_0f7a4_22 ?_
  refine lv_istore_n (lv' := [(0, .int (((a1 - (((a1.toUInt32 >>> ((1 : Int32).toUInt32 &&& Int32.toUInt32 31)).toInt32) &&& 1431655765)) &&& 858993459) + ((((a1 - (((a1.toUInt32 >>> ((1 : Int32).toUInt32 &&& Int32.toUInt32 31)).toInt32) &&& 1431655765)).toUInt32 >>> ((2 : Int32).toUInt32 &&& Int32.toUInt32 31)).toInt32) &&& 858993459)))]) hx hb dJ6_bitCount_0f7a4_23 rfl hl (by decide) rfl (fun ls hl => ?_)
  refine lv_iload_n hx hb dJ6_bitCount_0f7a4_24 rfl (lv_at hl 0 rfl) ?_
  refine lv_iload_n hx hb dJ6_bitCount_0f7a4_25 rfl (lv_at hl 0 rfl) ?_
  refine lv_iconst (v := 4) hx hb dJ6_bitCount_0f7a4_26 (by decide) ?_
  refine lv_iushr hx hb dJ6_bitCount_0f7a4_27 rfl ?_
  refine lv_iadd hx hb dJ6_bitCount_0f7a4_28 ?_
  refine lv_ldcw (v := 252645135) hx hb hown (hts (.constant RJ6 267 252645135) (by decide +kernel)) dJ6_bitCount_0f7a4_29 ?_
  refine lv_iand hx hb dJ6_bitCount_0f7a4_32 ?_
  refine lv_istore_n (lv' := [(0, .int (((((a1 - (((a1.toUInt32 >>> ((1 : Int32).toUInt32 &&& Int32.toUInt32 31)).toInt32) &&& 1431655765)) &&& 858993459) + ((((a1 - (((a1.toUInt32 >>> ((1 : Int32).toUInt32 &&& Int32.toUInt32 31)).toInt32) &&& 1431655765)).toUInt32 >>> ((2 : Int32).toUInt32 &&& Int32.toUInt32 31)).toInt32) &&& 858993459)) + (((((a1 - (((a1.toUInt32 >>> ((1 : Int32).toUInt32 &&& Int32.toUInt32 31)).toInt32) &&& 1431655765)) &&& 858993459) + ((((a1 - (((a1.toUInt32 >>> ((1 : Int32).toUInt32 &&& Int32.toUInt32 31)).toInt32) &&& 1431655765)).toUInt32 >>> ((2 : Int32).toUInt32 &&& Int32.toUInt32 31)).toInt32) &&& 858993459)).toUInt32 >>> ((4 : Int32).toUInt32 &&& Int32.toUInt32 31)).toInt32)) &&& 252645135))]) hx hb dJ6_bitCount_0f7a4_33 rfl hl (by decide) rfl (fun ls hl => ?_)
  refine lv_iload_n hx hb dJ6_bitCount_0f7a4_34 rfl (lv_at hl 0 rfl) ?_
  refine lv_iload_n hx hb dJ6_bitCount_0f7a4_35 rfl (lv_at hl 0 rfl) ?_
  refine lv_bipush (v := 8) hx hb dJ6_bitCount_0f7a4_36 (by decide) ?_
  refine lv_iushr hx hb dJ6_bitCount_0f7a4_38 rfl ?_
  refine lv_iadd hx hb dJ6_bitCount_0f7a4_39 ?_
  refine lv_istore_n (lv' := [(0, .int ((((((a1 - (((a1.toUInt32 >>> ((1 : Int32).toUInt32 &&& Int32.toUInt32 31)).toInt32) &&& 1431655765)) &&& 858993459) + ((((a1 - (((a1.toUInt32 >>> ((1 : Int32).toUInt32 &&& Int32.toUInt32 31)).toInt32) &&& 1431655765)).toUInt32 >>> ((2 : Int32).toUInt32 &&& Int32.toUInt32 31)).toInt32) &&& 858993459)) + (((((a1 - (((a1.toUInt32 >>> ((1 : Int32).toUInt32 &&& Int32.toUInt32 31)).toInt32) &&& 1431655765)) &&& 858993459) + ((((a1 - (((a1.toUInt32 >>> ((1 : Int32).toUInt32 &&& Int32.toUInt32 31)).toInt32) &&& 1431655765)).toUInt32 >>> ((2 : Int32).toUInt32 &&& Int32.toUInt32 31)).toInt32) &&& 858993459)).toUInt32 >>> ((4 : Int32).toUInt32 &&& Int32.toUInt32 31)).toInt32)) &&& 252645135) + (((((((a1 - (((a1.toUInt32 >>> ((1 : Int32).toUInt32 &&& Int32.toUInt32 31)).toInt32) &&& 1431655765)) &&& 858993459) + ((((a1 - (((a1.toUInt32 >>> ((1 : Int32).toUInt32 &&& Int32.toUInt32 31)).toInt32) &&& 1431655765)).toUInt32 >>> ((2 : Int32).toUInt32 &&& Int32.toUInt32 31)).toInt32) &&& 858993459)) + (((((a1 - (((a1.toUInt32 >>> ((1 : Int32).toUInt32 &&& Int32.toUInt32 31)).toInt32) &&& 1431655765)) &&& 858993459) + ((((a1 - (((a1.toUInt32 >>> ((1 : Int32).toUInt32 &&& Int32.toUInt32 31)).toInt32) &&& 1431655765)).toUInt32 >>> ((2 : Int32).toUInt32 &&& Int32.toUInt32 31)).toInt32) &&& 858993459)).toUInt32 >>> ((4 : Int32).toUInt32 &&& Int32.toUInt32 31)).toInt32)) &&& 252645135).toUInt32 >>> ((8 : Int32).toUInt32 &&& Int32.toUInt32 31)).toInt32)))]) hx hb dJ6_bitCount_0f7a4_40 rfl hl (by decide) rfl (fun ls hl => ?_)
  refine lv_iload_n hx hb dJ6_bitCount_0f7a4_41 rfl (lv_at hl 0 rfl) ?_
  refine lv_iload_n hx hb dJ6_bitCount_0f7a4_42 rfl (lv_at hl 0 rfl) ?_
  refine lv_bipush (v := 16) hx hb dJ6_bitCount_0f7a4_43 (by decide) ?_
  refine lv_iushr hx hb dJ6_bitCount_0f7a4_45 rfl ?_
  refine lv_iadd hx hb dJ6_bitCount_0f7a4_46 ?_
  refine lv_istore_n (lv' := [(0, .int (((((((a1 - (((a1.toUInt32 >>> ((1 : Int32).toUInt32 &&& Int32.toUInt32 31)).toInt32) &&& 1431655765)) &&& 858993459) + ((((a1 - (((a1.toUInt32 >>> ((1 : Int32).toUInt32 &&& Int32.toUInt32 31)).toInt32) &&& 1431655765)).toUInt32 >>> ((2 : Int32).toUInt32 &&& Int32.toUInt32 31)).toInt32) &&& 858993459)) + (((((a1 - (((a1.toUInt32 >>> ((1 : Int32).toUInt32 &&& Int32.toUInt32 31)).toInt32) &&& 1431655765)) &&& 858993459) + ((((a1 - (((a1.toUInt32 >>> ((1 : Int32).toUInt32 &&& Int32.toUInt32 31)).toInt32) &&& 1431655765)).toUInt32 >>> ((2 : Int32).toUInt32 &&& Int32.toUInt32 31)).toInt32) &&& 858993459)).toUInt32 >>> ((4 : Int32).toUInt32 &&& Int32.toUInt32 31)).toInt32)) &&& 252645135) + (((((((a1 - (((a1.toUInt32 >>> ((1 : Int32).toUInt32 &&& Int32.toUInt32 31)).toInt32) &&& 1431655765)) &&& 858993459) + ((((a1 - (((a1.toUInt32 >>> ((1 : Int32).toUInt32 &&& Int32.toUInt32 31)).toInt32) &&& 1431655765)).toUInt32 >>> ((2 : Int32).toUInt32 &&& Int32.toUInt32 31)).toInt32) &&& 858993459)) + (((((a1 - (((a1.toUInt32 >>> ((1 : Int32).toUInt32 &&& Int32.toUInt32 31)).toInt32) &&& 1431655765)) &&& 858993459) + ((((a1 - (((a1.toUInt32 >>> ((1 : Int32).toUInt32 &&& Int32.toUInt32 31)).toInt32) &&& 1431655765)).toUInt32 >>> ((2 : Int32).toUInt32 &&& Int32.toUInt32 31)).toInt32) &&& 858993459)).toUInt32 >>> ((4 : Int32).toUInt32 &&& Int32.toUInt32 31)).toInt32)) &&& 252645135).toUInt32 >>> ((8 : Int32).toUInt32 &&& Int32.toUInt32 31)).toInt32)) + ((((((((a1 - (((a1.toUInt32 >>> ((1 : Int32).toUInt32 &&& Int32.toUInt32 31)).toInt32) &&& 1431655765)) &&& 858993459) + ((((a1 - (((a1.toUInt32 >>> ((1 : Int32).toUInt32 &&& Int32.toUInt32 31)).toInt32) &&& 1431655765)).toUInt32 >>> ((2 : Int32).toUInt32 &&& Int32.toUInt32 31)).toInt32) &&& 858993459)) + (((((a1 - (((a1.toUInt32 >>> ((1 : Int32).toUInt32 &&& Int32.toUInt32 31)).toInt32) &&& 1431655765)) &&& 858993459) + ((((a1 - (((a1.toUInt32 >>> ((1 : Int32).toUInt32 &&& Int32.toUInt32 31)).toInt32) &&& 1431655765)).toUInt32 >>> ((2 : Int32).toUInt32 &&& Int32.toUInt32 31)).toInt32) &&& 858993459)).toUInt32 >>> ((4 : Int32).toUInt32 &&& Int32.toUInt32 31)).toInt32)) &&& 252645135) + (((((((a1 - (((a1.toUInt32 >>> ((1 : Int32).toUInt32 &&& Int32.toUInt32 31)).toInt32) &&& 1431655765)) &&& 858993459) + ((((a1 - (((a1.toUInt32 >>> ((1 : Int32).toUInt32 &&& Int32.toUInt32 31)).toInt32) &&& 1431655765)).toUInt32 >>> ((2 : Int32).toUInt32 &&& Int32.toUInt32 31)).toInt32) &&& 858993459)) + (((((a1 - (((a1.toUInt32 >>> ((1 : Int32).toUInt32 &&& Int32.toUInt32 31)).toInt32) &&& 1431655765)) &&& 858993459) + ((((a1 - (((a1.toUInt32 >>> ((1 : Int32).toUInt32 &&& Int32.toUInt32 31)).toInt32) &&& 1431655765)).toUInt32 >>> ((2 : Int32).toUInt32 &&& Int32.toUInt32 31)).toInt32) &&& 858993459)).toUInt32 >>> ((4 : Int32).toUInt32 &&& Int32.toUInt32 31)).toInt32)) &&& 252645135).toUInt32 >>> ((8 : Int32).toUInt32 &&& Int32.toUInt32 31)).toInt32)).toUInt32 >>> ((16 : Int32).toUInt32 &&& Int32.toUInt32 31)).toInt32)))]) hx hb dJ6_bitCount_0f7a4_47 rfl hl (by decide) rfl (fun ls hl => ?_)
  refine lv_iload_n hx hb dJ6_bitCount_0f7a4_48 rfl (lv_at hl 0 rfl) ?_
  refine lv_bipush (v := 63) hx hb dJ6_bitCount_0f7a4_49 (by decide) ?_
  refine lv_iand hx hb dJ6_bitCount_0f7a4_51 ?_
  exact END ((((((((a1 - (((a1.toUInt32 >>> ((1 : Int32).toUInt32 &&& Int32.toUInt32 31)).toInt32) &&& 1431655765)) &&& 858993459) + ((((a1 - (((a1.toUInt32 >>> ((1 : Int32).toUInt32 &&& Int32.toUInt32 31)).toInt32) &&& 1431655765)).toUInt32 >>> ((2 : Int32).toUInt32 &&& Int32.toUInt32 31)).toInt32) &&& 858993459)) + (((((a1 - (((a1.toUInt32 >>> ((1 : Int32).toUInt32 &&& Int32.toUInt32 31)).toInt32) &&& 1431655765)) &&& 858993459) + ((((a1 - (((a1.toUInt32 >>> ((1 : Int32).toUInt32 &&& Int32.toUInt32 31)).toInt32) &&& 1431655765)).toUInt32 >>> ((2 : Int32).toUInt32 &&& Int32.toUInt32 31)).toInt32) &&& 858993459)).toUInt32 >>> ((4 : Int32).toUInt32 &&& Int32.toUInt32 31)).toInt32)) &&& 252645135) + (((((((a1 - (((a1.toUInt32 >>> ((1 : Int32).toUInt32 &&& Int32.toUInt32 31)).toInt32) &&& 1431655765)) &&& 858993459) + ((((a1 - (((a1.toUInt32 >>> ((1 : Int32).toUInt32 &&& Int32.toUInt32 31)).toInt32) &&& 1431655765)).toUInt32 >>> ((2 : Int32).toUInt32 &&& Int32.toUInt32 31)).toInt32) &&& 858993459)) + (((((a1 - (((a1.toUInt32 >>> ((1 : Int32).toUInt32 &&& Int32.toUInt32 31)).toInt32) &&& 1431655765)) &&& 858993459) + ((((a1 - (((a1.toUInt32 >>> ((1 : Int32).toUInt32 &&& Int32.toUInt32 31)).toInt32) &&& 1431655765)).toUInt32 >>> ((2 : Int32).toUInt32 &&& Int32.toUInt32 31)).toInt32) &&& 858993459)).toUInt32 >>> ((4 : Int32).toUInt32 &&& Int32.toUInt32 31)).toInt32)) &&& 252645135).toUInt32 >>> ((8 : Int32).toUInt32 &&& Int32.toUInt32 31)).toInt32)) + ((((((((a1 - (((a1.toUInt32 >>> ((1 : Int32).toUInt32 &&& Int32.toUInt32 31)).toInt32) &&& 1431655765)) &&& 858993459) + ((((a1 - (((a1.toUInt32 >>> ((1 : Int32).toUInt32 &&& Int32.toUInt32 31)).toInt32) &&& 1431655765)).toUInt32 >>> ((2 : Int32).toUInt32 &&& Int32.toUInt32 31)).toInt32) &&& 858993459)) + (((((a1 - (((a1.toUInt32 >>> ((1 : Int32).toUInt32 &&& Int32.toUInt32 31)).toInt32) &&& 1431655765)) &&& 858993459) + ((((a1 - (((a1.toUInt32 >>> ((1 : Int32).toUInt32 &&& Int32.toUInt32 31)).toInt32) &&& 1431655765)).toUInt32 >>> ((2 : Int32).toUInt32 &&& Int32.toUInt32 31)).toInt32) &&& 858993459)).toUInt32 >>> ((4 : Int32).toUInt32 &&& Int32.toUInt32 31)).toInt32)) &&& 252645135) + (((((((a1 - (((a1.toUInt32 >>> ((1 : Int32).toUInt32 &&& Int32.toUInt32 31)).toInt32) &&& 1431655765)) &&& 858993459) + ((((a1 - (((a1.toUInt32 >>> ((1 : Int32).toUInt32 &&& Int32.toUInt32 31)).toInt32) &&& 1431655765)).toUInt32 >>> ((2 : Int32).toUInt32 &&& Int32.toUInt32 31)).toInt32) &&& 858993459)) + (((((a1 - (((a1.toUInt32 >>> ((1 : Int32).toUInt32 &&& Int32.toUInt32 31)).toInt32) &&& 1431655765)) &&& 858993459) + ((((a1 - (((a1.toUInt32 >>> ((1 : Int32).toUInt32 &&& Int32.toUInt32 31)).toInt32) &&& 1431655765)).toUInt32 >>> ((2 : Int32).toUInt32 &&& Int32.toUInt32 31)).toInt32) &&& 858993459)).toUInt32 >>> ((4 : Int32).toUInt32 &&& Int32.toUInt32 31)).toInt32)) &&& 252645135).toUInt32 >>> ((8 : Int32).toUInt32 &&& Int32.toUInt32 31)).toInt32)).toUInt32 >>> ((16 : Int32).toUInt32 &&& Int32.toUInt32 31)).toInt32)) &&& 63) hT _ _ hP hD hS _ _ dJ6_bitCount_0f7a4_52
