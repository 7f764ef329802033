theorem dX1_contains_0 : decode cX1_contains 0 = .ok (.iload_n 1, 1) := by decide +kernel
theorem dX1_contains_1 : decode cX1_contains 1 = .ok (.ifCond .lt 35, 3) := by decide +kernel
theorem dX1_contains_4 : decode cX1_contains 4 = .ok (.iload_n 1, 1) := by decide +kernel
theorem dX1_contains_5 : decode cX1_contains 5 = .ok (.sipush 384, 3) := by decide +kernel
theorem dX1_contains_8 : decode cX1_contains 8 = .ok (.if_icmp .ge 28, 3) := by decide +kernel
theorem dX1_contains_11 : decode cX1_contains 11 = .ok (.aload_n 0, 1) := by decide +kernel
theorem dX1_contains_12 : decode cX1_contains 12 = .ok (.getfield 9, 3) := by decide +kernel
theorem dX1_contains_15 : decode cX1_contains 15 = .ok (.iload_n 1, 1) := by decide +kernel
theorem dX1_contains_16 : decode cX1_contains 16 = .ok (.bipush 64, 2) := by decide +kernel
theorem dX1_contains_18 : decode cX1_contains 18 = .ok (.idiv, 1) := by decide +kernel
theorem dX1_contains_19 : decode cX1_contains 19 = .ok (.laload, 1) := by decide +kernel
theorem dX1_contains_20 : decode cX1_contains 20 = .ok (.iload_n 1, 1) := by decide +kernel
theorem dX1_contains_21 : decode cX1_contains 21 = .ok (.bipush 64, 2) := by decide +kernel
theorem dX1_contains_23 : decode cX1_contains 23 = .ok (.irem, 1) := by decide +kernel
theorem dX1_contains_24 : decode cX1_contains 24 = .ok (.lushr, 1) := by decide +kernel
theorem dX1_contains_25 : decode cX1_contains 25 = .ok (.lconst 1, 1) := by decide +kernel
theorem dX1_contains_26 : decode cX1_contains 26 = .ok (.land, 1) := by decide +kernel
theorem dX1_contains_27 : decode cX1_contains 27 = .ok (.lconst 0, 1) := by decide +kernel
theorem dX1_contains_28 : decode cX1_contains 28 = .ok (.lcmp, 1) := by decide +kernel
theorem dX1_contains_29 : decode cX1_contains 29 = .ok (.ifCond .eq 7, 3) := by decide +kernel
theorem dX1_contains_32 : decode cX1_contains 32 = .ok (.iconst 1, 1) := by decide +kernel
theorem dX1_contains_33 : decode cX1_contains 33 = .ok (.goto 4, 3) := by decide +kernel
theorem dX1_contains_36 : decode cX1_contains 36 = .ok (.iconst 0, 1) := by decide +kernel
theorem dX1_contains_37 : decode cX1_contains 37 = .ok (.ireturn, 1) := by decide +kernel
theorem dX1_countOf_0 : decode cX1_countOf 0 = .ok (.iload_n 1, 1) := by decide +kernel
theorem dX1_countOf_1 : decode cX1_countOf 1 = .ok (.ifCond .lt 21, 3) := by decide +kernel
theorem dX1_countOf_4 : decode cX1_countOf 4 = .ok (.iload_n 1, 1) := by decide +kernel
theorem dX1_countOf_5 : decode cX1_countOf 5 = .ok (.bipush 6, 2) := by decide +kernel
theorem dX1_countOf_7 : decode cX1_countOf 7 = .ok (.if_icmp .ge 15, 3) := by decide +kernel
theorem dX1_countOf_10 : decode cX1_countOf 10 = .ok (.aload_n 0, 1) := by decide +kernel
theorem dX1_countOf_11 : decode cX1_countOf 11 = .ok (.getfield 9, 3) := by decide +kernel
theorem dX1_countOf_14 : decode cX1_countOf 14 = .ok (.iload_n 1, 1) := by decide +kernel
theorem dX1_countOf_15 : decode cX1_countOf 15 = .ok (.laload, 1) := by decide +kernel
theorem dX1_countOf_16 : decode cX1_countOf 16 = .ok (.invokestatic 17, 3) := by decide +kernel
theorem dX1_countOf_19 : decode cX1_countOf 19 = .ok (.goto 4, 3) := by decide +kernel
theorem dX1_countOf_22 : decode cX1_countOf 22 = .ok (.iconst 0, 1) := by decide +kernel
theorem dX1_countOf_23 : decode cX1_countOf 23 = .ok (.ireturn, 1) := by decide +kernel
theorem dX1_count_0 : decode cX1_count 0 = .ok (.iconst 0, 1) := by decide +kernel
theorem dX1_count_1 : decode cX1_count 1 = .ok (.istore_n 1, 1) := by decide +kernel
theorem dX1_count_2 : decode cX1_count 2 = .ok (.iconst 0, 1) := by decide +kernel
theorem dX1_count_3 : decode cX1_count 3 = .ok (.istore_n 2, 1) := by decide +kernel
theorem dX1_count_4 : decode cX1_count 4 = .ok (.iload_n 2, 1) := by decide +kernel
theorem dX1_count_5 : decode cX1_count 5 = .ok (.bipush 6, 2) := by decide +kernel
theorem dX1_count_7 : decode cX1_count 7 = .ok (.if_icmp .ge 17, 3) := by decide +kernel
theorem dX1_count_10 : decode cX1_count 10 = .ok (.iload_n 1, 1) := by decide +kernel
theorem dX1_count_11 : decode cX1_count 11 = .ok (.aload_n 0, 1) := by decide +kernel
theorem dX1_count_12 : decode cX1_count 12 = .ok (.iload_n 2, 1) := by decide +kernel
theorem dX1_count_13 : decode cX1_count 13 = .ok (.invokevirtual 23, 3) := by decide +kernel
theorem dX1_count_16 : decode cX1_count 16 = .ok (.iadd, 1) := by decide +kernel
theorem dX1_count_17 : decode cX1_count 17 = .ok (.istore_n 1, 1) := by decide +kernel
theorem dX1_count_18 : decode cX1_count 18 = .ok (.iinc 2 1, 3) := by decide +kernel
theorem dX1_count_21 : decode cX1_count 21 = .ok (.goto (-17), 3) := by decide +kernel
theorem dX1_count_24 : decode cX1_count 24 = .ok (.iload_n 1, 1) := by decide +kernel
theorem dX1_count_25 : decode cX1_count 25 = .ok (.ireturn, 1) := by decide +kernel
theorem dX1_clear_0 : decode cX1_clear 0 = .ok (.iconst 0, 1) := by decide +kernel
theorem dX1_clear_1 : decode cX1_clear 1 = .ok (.istore_n 1, 1) := by decide +kernel
theorem dX1_clear_2 : decode cX1_clear 2 = .ok (.iload_n 1, 1) := by decide +kernel
theorem dX1_clear_3 : decode cX1_clear 3 = .ok (.bipush 6, 2) := by decide +kernel
theorem dX1_clear_5 : decode cX1_clear 5 = .ok (.if_icmp .ge 16, 3) := by decide +kernel
theorem dX1_clear_8 : decode cX1_clear 8 = .ok (.aload_n 0, 1) := by decide +kernel
theorem dX1_clear_9 : decode cX1_clear 9 = .ok (.getfield 9, 3) := by decide +kernel
theorem dX1_clear_12 : decode cX1_clear 12 = .ok (.iload_n 1, 1) := by decide +kernel
theorem dX1_clear_13 : decode cX1_clear 13 = .ok (.lconst 0, 1) := by decide +kernel
theorem dX1_clear_14 : decode cX1_clear 14 = .ok (.lastore, 1) := by decide +kernel
theorem dX1_clear_15 : decode cX1_clear 15 = .ok (.iinc 1 1, 3) := by decide +kernel
theorem dX1_clear_18 : decode cX1_clear 18 = .ok (.goto (-16), 3) := by decide +kernel
theorem dX1_clear_21 : decode cX1_clear 21 = .ok (.return_, 1) := by decide +kernel
theorem dX10_dropAssumptions_0 : decode cX10_dropAssumptions 0 = .ok (.aload_n 0, 1) := by decide +kernel
theorem dX10_dropAssumptions_1 : decode cX10_dropAssumptions 1 = .ok (.getfield 46, 3) := by decide +kernel
theorem dX10_dropAssumptions_4 : decode cX10_dropAssumptions 4 = .ok (.invokevirtual 245, 3) := by decide +kernel
theorem dX10_dropAssumptions_7 : decode cX10_dropAssumptions 7 = .ok (.aload_n 0, 1) := by decide +kernel
theorem dX10_dropAssumptions_8 : decode cX10_dropAssumptions 8 = .ok (.getfield 50, 3) := by decide +kernel
theorem dX10_dropAssumptions_11 : decode cX10_dropAssumptions 11 = .ok (.invokevirtual 245, 3) := by decide +kernel
theorem dX10_dropAssumptions_14 : decode cX10_dropAssumptions 14 = .ok (.iadd, 1) := by decide +kernel
theorem dX10_dropAssumptions_15 : decode cX10_dropAssumptions 15 = .ok (.istore_n 1, 1) := by decide +kernel
theorem dX10_dropAssumptions_16 : decode cX10_dropAssumptions 16 = .ok (.aload_n 0, 1) := by decide +kernel
theorem dX10_dropAssumptions_17 : decode cX10_dropAssumptions 17 = .ok (.getfield 56, 3) := by decide +kernel
theorem dX10_dropAssumptions_20 : decode cX10_dropAssumptions 20 = .ok (.iconst 0, 1) := by decide +kernel
theorem dX10_dropAssumptions_21 : decode cX10_dropAssumptions 21 = .ok (.putfield 235, 3) := by decide +kernel
theorem dX10_dropAssumptions_24 : decode cX10_dropAssumptions 24 = .ok (.aload_n 0, 1) := by decide +kernel
theorem dX10_dropAssumptions_25 : decode cX10_dropAssumptions 25 = .ok (.getfield 46, 3) := by decide +kernel
theorem dX10_dropAssumptions_28 : decode cX10_dropAssumptions 28 = .ok (.invokevirtual 248, 3) := by decide +kernel
theorem dX10_dropAssumptions_31 : decode cX10_dropAssumptions 31 = .ok (.aload_n 0, 1) := by decide +kernel
theorem dX10_dropAssumptions_32 : decode cX10_dropAssumptions 32 = .ok (.getfield 50, 3) := by decide +kernel
theorem dX10_dropAssumptions_35 : decode cX10_dropAssumptions 35 = .ok (.invokevirtual 248, 3) := by decide +kernel
theorem dX10_dropAssumptions_38 : decode cX10_dropAssumptions 38 = .ok (.iload_n 1, 1) := by decide +kernel
theorem dX10_dropAssumptions_39 : decode cX10_dropAssumptions 39 = .ok (.ireturn, 1) := by decide +kernel
theorem dJ13_bitCount_95d88_0 : decode cJ13_bitCount_95d88 0 = .ok (.lload_n 0, 1) := by decide +kernel
theorem dJ13_bitCount_95d88_1 : decode cJ13_bitCount_95d88 1 = .ok (.lload_n 0, 1) := by decide +kernel
theorem dJ13_bitCount_95d88_2 : decode cJ13_bitCount_95d88 2 = .ok (.iconst 1, 1) := by decide +kernel
theorem dJ13_bitCount_95d88_3 : decode cJ13_bitCount_95d88 3 = .ok (.lushr, 1) := by decide +kernel
theorem dJ13_bitCount_95d88_4 : decode cJ13_bitCount_95d88 4 = .ok (.ldc2_w 314, 3) := by decide +kernel
theorem dJ13_bitCount_95d88_7 : decode cJ13_bitCount_95d88 7 = .ok (.land, 1) := by decide +kernel
theorem dJ13_bitCount_95d88_8 : decode cJ13_bitCount_95d88 8 = .ok (.lsub, 1) := by decide +kernel
theorem dJ13_bitCount_95d88_9 : decode cJ13_bitCount_95d88 9 = .ok (.lstore_n 0, 1) := by decide +kernel
theorem dJ13_bitCount_95d88_10 : decode cJ13_bitCount_95d88 10 = .ok (.lload_n 0, 1) := by decide +kernel
theorem dJ13_bitCount_95d88_11 : decode cJ13_bitCount_95d88 11 = .ok (.ldc2_w 316, 3) := by decide +kernel
theorem dJ13_bitCount_95d88_14 : decode cJ13_bitCount_95d88 14 = .ok (.land, 1) := by decide +kernel
theorem dJ13_bitCount_95d88_15 : decode cJ13_bitCount_95d88 15 = .ok (.lload_n 0, 1) := by decide +kernel
theorem dJ13_bitCount_95d88_16 : decode cJ13_bitCount_95d88 16 = .ok (.iconst 2, 1) := by decide +kernel
theorem dJ13_bitCount_95d88_17 : decode cJ13_bitCount_95d88 17 = .ok (.lushr, 1) := by decide +kernel
theorem dJ13_bitCount_95d88_18 : decode cJ13_bitCount_95d88 18 = .ok (.ldc2_w 316, 3) := by decide +kernel
theorem dJ13_bitCount_95d88_21 : decode cJ13_bitCount_95d88 21 = .ok (.land, 1) := by decide +kernel
theorem dJ13_bitCount_95d88_22 : decode cJ13_bitCount_95d88 22 = .ok (.ladd, 1) := by decide +kernel
theorem dJ13_bitCount_95d88_23 : decode cJ13_bitCount_95d88 23 = .ok (.lstore_n 0, 1) := by decide +kernel
theorem dJ13_bitCount_95d88_24 : decode cJ13_bitCount_95d88 24 = .ok (.lload_n 0, 1) := by decide +kernel
theorem dJ13_bitCount_95d88_25 : decode cJ13_bitCount_95d88 25 = .ok (.lload_n 0, 1) := by decide +kernel
theorem dJ13_bitCount_95d88_26 : decode cJ13_bitCount_95d88 26 = .ok (.iconst 4, 1) := by decide +kernel
theorem dJ13_bitCount_95d88_27 : decode cJ13_bitCount_95d88 27 = .ok (.lushr, 1) := by decide +kernel
theorem dJ13_bitCount_95d88_28 : decode cJ13_bitCount_95d88 28 = .ok (.ladd, 1) := by decide +kernel
theorem dJ13_bitCount_95d88_29 : decode cJ13_bitCount_95d88 29 = .ok (.ldc2_w 318, 3) := by decide +kernel
theorem dJ13_bitCount_95d88_32 : decode cJ13_bitCount_95d88 32 = .ok (.land, 1) := by decide +kernel
theorem dJ13_bitCount_95d88_33 : decode cJ13_bitCount_95d88 33 = .ok (.lstore_n 0, 1) := by decide +kernel
theorem dJ13_bitCount_95d88_34 : decode cJ13_bitCount_95d88 34 = .ok (.lload_n 0, 1) := by decide +kernel
theorem dJ13_bitCount_95d88_35 : decode cJ13_bitCount_95d88 35 = .ok (.lload_n 0, 1) := by decide +kernel
theorem dJ13_bitCount_95d88_36 : decode cJ13_bitCount_95d88 36 = .ok (.bipush 8, 2) := by decide +kernel
theorem dJ13_bitCount_95d88_38 : decode cJ13_bitCount_95d88 38 = .ok (.lushr, 1) := by decide +kernel
theorem dJ13_bitCount_95d88_39 : decode cJ13_bitCount_95d88 39 = .ok (.ladd, 1) := by decide +kernel
theorem dJ13_bitCount_95d88_40 : decode cJ13_bitCount_95d88 40 = .ok (.lstore_n 0, 1) := by decide +kernel
theorem dJ13_bitCount_95d88_41 : decode cJ13_bitCount_95d88 41 = .ok (.lload_n 0, 1) := by decide +kernel
theorem dJ13_bitCount_95d88_42 : decode cJ13_bitCount_95d88 42 = .ok (.lload_n 0, 1) := by decide +kernel
theorem dJ13_bitCount_95d88_43 : decode cJ13_bitCount_95d88 43 = .ok (.bipush 16, 2) := by decide +kernel
theorem dJ13_bitCount_95d88_45 : decode cJ13_bitCount_95d88 45 = .ok (.lushr, 1) := by decide +kernel
theorem dJ13_bitCount_95d88_46 : decode cJ13_bitCount_95d88 46 = .ok (.ladd, 1) := by decide +kernel
theorem dJ13_bitCount_95d88_47 : decode cJ13_bitCount_95d88 47 = .ok (.lstore_n 0, 1) := by decide +kernel
theorem dJ13_bitCount_95d88_48 : decode cJ13_bitCount_95d88 48 = .ok (.lload_n 0, 1) := by decide +kernel
theorem dJ13_bitCount_95d88_49 : decode cJ13_bitCount_95d88 49 = .ok (.lload_n 0, 1) := by decide +kernel
theorem dJ13_bitCount_95d88_50 : decode cJ13_bitCount_95d88 50 = .ok (.bipush 32, 2) := by decide +kernel
theorem dJ13_bitCount_95d88_52 : decode cJ13_bitCount_95d88 52 = .ok (.lushr, 1) := by decide +kernel
theorem dJ13_bitCount_95d88_53 : decode cJ13_bitCount_95d88 53 = .ok (.ladd, 1) := by decide +kernel
theorem dJ13_bitCount_95d88_54 : decode cJ13_bitCount_95d88 54 = .ok (.lstore_n 0, 1) := by decide +kernel
theorem dJ13_bitCount_95d88_55 : decode cJ13_bitCount_95d88 55 = .ok (.lload_n 0, 1) := by decide +kernel
theorem dJ13_bitCount_95d88_56 : decode cJ13_bitCount_95d88 56 = .ok (.l2i, 1) := by decide +kernel
theorem dJ13_bitCount_95d88_57 : decode cJ13_bitCount_95d88 57 = .ok (.bipush 127, 2) := by decide +kernel
theorem dJ13_bitCount_95d88_59 : decode cJ13_bitCount_95d88 59 = .ok (.iand, 1) := by decide +kernel
theorem dJ13_bitCount_95d88_60 : decode cJ13_bitCount_95d88 60 = .ok (.ireturn, 1) := by decide +kernel
def vs_k_J13_bitCount_0 : List Cond := .code yJ13_bitCount_95d88 cJ13_bitCount_95d88 2 (some .int) :: ([.constantLong RJ13 314 6148914691236517205, .constantLong RJ13 316 3689348814741910323, .constantLong RJ13 318 1085102592571150095])
set_option maxHeartbeats 4000000 in
set_option maxRecDepth 100000 in
theorem k_J13_bitCount_0 (l : Launch) (D : va_G) (ty : Nat → ClassId) (td mi sz : Nat) : Met l yJ13_bitCount_95d88 vs_k_J13_bitCount_0 { frames := 0, cells := 0, slots := 0, locals := 0 } (va_Pc [.long 0] (wq_P D ty td mi [] sz)) (va_Qi (fun (r : Int32) (u : va_W) => (r = 0 ∧ (u = []))) (wq_B D (va_A [] sz)) (va_A [] sz)) 0 0 (va_A [] sz) := by
  refine Met.ofW (cc := cJ13_bitCount_95d88) (maxL := 2) (ret := (some .int)) (by decide) rfl ?_
  intro p e s m args below meth c s₁ B hml hv
  obtain ⟨rfl, hsz, hP, hK, hD0, hE⟩ := hv
  have hx := B.exec
  have hb := B.bytes
  have hr := B.returns
  have hts := atoms_spec (ws := vs_k_J13_bitCount_0) B.pre
  have hown : s.vm.findClass RJ13 = some m.cls := findClass_of_methodNamed B.named
  have hlocks := B.notSynchronized
  subst hsz
  have hD := hD0.self (sz := s.heap.size)
  generalize hAe : va_A [] s.heap.size = A at hD hE ⊢
  have hA : ∀ q : Nat, s.heap.size ≤ q → A q := fun q h => by rw [← hAe]; exact Or.inr h
  have hS : va_S A s.heap s.heap [] := va_S.rf
  have hP : va_P D vwCl [] s.heap := hP
  have hl := lv_entry ([.long 0]) (n := 2) (Nat.le_of_ble_eq_true rfl)
  rw [lg_entry_eq]
  generalize (lg_sl ([.long 0]) ++ List.replicate (2 - (lg_sl ([.long 0])).length) Slot.unset).toArray = ls at hl ⊢
  have hl : lv_has ls 2 [(0, .long 0)] := hl
  refine lv_lload_n hx hb dJ13_bitCount_95d88_0 rfl (lv_at hl 0 rfl) ?_
  refine lv_lload_n hx hb dJ13_bitCount_95d88_1 rfl (lv_at hl 0 rfl) ?_
  refine lv_iconst (v := 1) hx hb dJ13_bitCount_95d88_2 (by decide) ?_
  refine lv_lushr (v := 0) hx hb dJ13_bitCount_95d88_3 (by decide) ?_
  refine lv_ldc2 (v := 6148914691236517205) hx hb hown (hts (.constantLong RJ13 314 6148914691236517205) (by decide +kernel)) dJ13_bitCount_95d88_4 ?_
  refine lv_land hx hb dJ13_bitCount_95d88_7 ?_
  refine lv_topl (nm_r (e' := 0) (by decide) ?_)
  refine lv_lsub hx hb dJ13_bitCount_95d88_8 ?_
  refine lv_topl (nm_r (e' := 0) (by decide) ?_)
  refine lv_lstore_n (lv' := [(0, .long 0)]) hx hb dJ13_bitCount_95d88_9 rfl hl (by decide) rfl (fun ls hl => ?_)
  refine lv_lload_n hx hb dJ13_bitCount_95d88_10 rfl (lv_at hl 0 rfl) ?_
  refine lv_ldc2 (v := 3689348814741910323) hx hb hown (hts (.constantLong RJ13 316 3689348814741910323) (by decide +kernel)) dJ13_bitCount_95d88_11 ?_
  refine lv_land hx hb dJ13_bitCount_95d88_14 ?_
  refine lv_topl (nm_r (e' := 0) (by decide) ?_)
  refine lv_lload_n hx hb dJ13_bitCount_95d88_15 rfl (lv_at hl 0 rfl) ?_
  refine lv_iconst (v := 2) hx hb dJ13_bitCount_95d88_16 (by decide) ?_
  refine lv_lushr (v := 0) hx hb dJ13_bitCount_95d88_17 (by decide) ?_
  refine lv_ldc2 (v := 3689348814741910323) hx hb hown (hts (.constantLong RJ13 316 3689348814741910323) (by decide +kernel)) dJ13_bitCount_95d88_18 ?_
  refine lv_land hx hb dJ13_bitCount_95d88_21 ?_
  refine lv_topl (nm_r (e' := 0) (by decide) ?_)
  refine lv_ladd hx hb dJ13_bitCount_95d88_22 ?_
  refine lv_topl (nm_r (e' := 0) (by decide) ?_)
  refine lv_lstore_n (lv' := [(0, .long 0)]) hx hb dJ13_bitCount_95d88_23 rfl hl (by decide) rfl (fun ls hl => ?_)
  refine lv_lload_n hx hb dJ13_bitCount_95d88_24 rfl (lv_at hl 0 rfl) ?_
  refine lv_lload_n hx hb dJ13_bitCount_95d88_25 rfl (lv_at hl 0 rfl) ?_
  refine lv_iconst (v := 4) hx hb dJ13_bitCount_95d88_26 (by decide) ?_
  refine lv_lushr (v := 0) hx hb dJ13_bitCount_95d88_27 (by decide) ?_
  refine lv_ladd hx hb dJ13_bitCount_95d88_28 ?_
  refine lv_topl (nm_r (e' := 0) (by decide) ?_)
  refine lv_ldc2 (v := 1085102592571150095) hx hb hown (hts (.constantLong RJ13 318 1085102592571150095) (by decide +kernel)) dJ13_bitCount_95d88_29 ?_
  refine lv_land hx hb dJ13_bitCount_95d88_32 ?_
  refine lv_topl (nm_r (e' := 0) (by decide) ?_)
  refine lv_lstore_n (lv' := [(0, .long 0)]) hx hb dJ13_bitCount_95d88_33 rfl hl (by decide) rfl (fun ls hl => ?_)
  refine lv_lload_n hx hb dJ13_bitCount_95d88_34 rfl (lv_at hl 0 rfl) ?_
  refine lv_lload_n hx hb dJ13_bitCount_95d88_35 rfl (lv_at hl 0 rfl) ?_
  refine lv_bipush (v := 8) hx hb dJ13_bitCount_95d88_36 (by decide) ?_
  refine lv_lushr (v := 0) hx hb dJ13_bitCount_95d88_38 (by decide) ?_
  refine lv_ladd hx hb dJ13_bitCount_95d88_39 ?_
  refine lv_topl (nm_r (e' := 0) (by decide) ?_)
  refine lv_lstore_n (lv' := [(0, .long 0)]) hx hb dJ13_bitCount_95d88_40 rfl hl (by decide) rfl (fun ls hl => ?_)
  refine lv_lload_n hx hb dJ13_bitCount_95d88_41 rfl (lv_at hl 0 rfl) ?_
  refine lv_lload_n hx hb dJ13_bitCount_95d88_42 rfl (lv_at hl 0 rfl) ?_
  refine lv_bipush (v := 16) hx hb dJ13_bitCount_95d88_43 (by decide) ?_
  refine lv_lushr (v := 0) hx hb dJ13_bitCount_95d88_45 (by decide) ?_
  refine lv_ladd hx hb dJ13_bitCount_95d88_46 ?_
  refine lv_topl (nm_r (e' := 0) (by decide) ?_)
  refine lv_lstore_n (lv' := [(0, .long 0)]) hx hb dJ13_bitCount_95d88_47 rfl hl (by decide) rfl (fun ls hl => ?_)
  refine lv_lload_n hx hb dJ13_bitCount_95d88_48 rfl (lv_at hl 0 rfl) ?_
  refine lv_lload_n hx hb dJ13_bitCount_95d88_49 rfl (lv_at hl 0 rfl) ?_
  refine lv_bipush (v := 32) hx hb dJ13_bitCount_95d88_50 (by decide) ?_
  refine lv_lushr (v := 0) hx hb dJ13_bitCount_95d88_52 (by decide) ?_
  refine lv_ladd hx hb dJ13_bitCount_95d88_53 ?_
  refine lv_topl (nm_r (e' := 0) (by decide) ?_)
  refine lv_lstore_n (lv' := [(0, .long 0)]) hx hb dJ13_bitCount_95d88_54 rfl hl (by decide) rfl (fun ls hl => ?_)
  refine lv_lload_n hx hb dJ13_bitCount_95d88_55 rfl (lv_at hl 0 rfl) ?_
  refine lv_l2i (v := 0) hx hb dJ13_bitCount_95d88_56 (by decide) ?_
  refine lv_bipush (v := 127) hx hb dJ13_bitCount_95d88_57 (by decide) ?_
  refine lv_iand hx hb dJ13_bitCount_95d88_59 ?_
  refine lv_topi (nm_r (e' := 0) (by decide) ?_)
  have hP9 := hP.sub (ws' := []) [] rfl
  have hD9 := hD.sub (ws' := []) [] (by decide) rfl
  refine W.widen (k := 0) (n := 0) (Nat.le_of_ble_eq_true rfl) (Nat.le_of_ble_eq_true rfl) ?_
  exact W.iret (v := 0) hx hb hr (fun t ht hW => ⟨⟨0, [], rfl, ⟨rfl, rfl⟩, wq_B.of ht hP9 hD9⟩, hS.F ht⟩) hS.2.2 dJ13_bitCount_95d88_60
def vs_k_X1_countOf_0 : List Cond := .code yX1_countOf cX1_countOf 2 (some .int) :: ([.fieldLink RX1 9 "AnswerFold$AtomSet" "words" "[J", .methodLink RX1 17 yJ13_bitCount_95d88, .static yJ13_bitCount_95d88, .initialized RJ13] ++ (u_ws RX1 TX1 1 ++ (vs_k_J13_bitCount_0)))
theorem iv_k_X1_countOf_0_X1 : ∀ w ∈ u_ws RX1 TX1 1, w ∈ vs_k_X1_countOf_0 := (fun _ h => List.mem_cons_of_mem _ (List.mem_append_right _ (List.mem_append_left _ h)))
set_option maxRecDepth 20000 in
theorem gv_k_X1_countOf_0_0 : GoodIn vs_k_X1_countOf_0 (va_wsS RX1 17 yJ13_bitCount_95d88 vs_k_J13_bitCount_0) := goodIn_app (goodIn_sub (by decide +kernel) (by decide +kernel)) (goodIn_sub (fun _ h => List.mem_cons_of_mem _ (List.mem_append_right _ (List.mem_append_right _ (h)))) (by decide +kernel))
set_option maxHeartbeats 4000000 in
set_option maxRecDepth 100000 in
theorem k_X1_countOf_0 (l : Launch) (D : va_G) (ty : Nat → ClassId) (td mi sz : Nat) (h0 : Nat) (h1 : Nat) : Met l yX1_countOf vs_k_X1_countOf_0 { frames := 1, cells := 0, slots := 0, locals := 21 } (va_Pc [.ref h0, .int 0] (wq_P D ty td mi [(h0, .inr (6, [.ref h1])), (h1, .inl (ty 1, 6, .inr (.inl (fun _ => 0))))] sz)) (va_Qi (fun (r : Int32) (u : va_W) => (r = 0 ∧ (u = [(h0, .inr (6, [.ref h1])), (h1, .inl (ty 1, 6, .inr (.inl (fun _ => 0))))]))) (wq_B D (va_A [(h0, .inr (6, [.ref h1])), (h1, .inl (ty 1, 6, .inr (.inl (fun _ => 0))))] sz)) (va_A [(h0, .inr (6, [.ref h1])), (h1, .inl (ty 1, 6, .inr (.inl (fun _ => 0))))] sz)) 0 0 (va_A [(h0, .inr (6, [.ref h1])), (h1, .inl (ty 1, 6, .inr (.inl (fun _ => 0))))] sz) := by
  refine Met.ofW (cc := cX1_countOf) (maxL := 2) (ret := (some .int)) (by decide) rfl ?_
  intro p e s m args below meth c s₁ B hml hv
  obtain ⟨rfl, hsz, hP, hK, hD0, hE⟩ := hv
  have hx := B.exec
  have hb := B.bytes
  have hr := B.returns
  have hts := atoms_spec (ws := vs_k_X1_countOf_0) B.pre
  have hown : s.vm.findClass RX1 = some m.cls := findClass_of_methodNamed B.named
  have hlocks := B.notSynchronized
  subst hsz
  have hD := hD0.self (sz := s.heap.size)
  generalize hAe : va_A [(h0, .inr (6, [.ref h1])), (h1, .inl (ty 1, 6, .inr (.inl (fun _ => 0))))] s.heap.size = A at hD hE ⊢
  have hA : ∀ q : Nat, s.heap.size ≤ q → A q := fun q h => by rw [← hAe]; exact Or.inr h
  have hS : va_S A s.heap s.heap [] := va_S.rf
  have hP : va_P D vwCl [(h0, .inr (6, [.ref h1])), (h1, .inl (ty 1, 6, .inr (.inl (fun _ => 0))))] s.heap := hP
  have hl := lv_entry ([.ref h0, .int 0]) (n := 2) (Nat.le_of_ble_eq_true rfl)
  rw [lg_entry_eq]
  generalize (lg_sl ([.ref h0, .int 0]) ++ List.replicate (2 - (lg_sl ([.ref h0, .int 0])).length) Slot.unset).toArray = ls at hl ⊢
  have hl : lv_has ls 2 [(0, .ref h0), (1, .int 0)] := hl
  refine lv_iload_n hx hb dX1_countOf_0 rfl (lv_at hl 1 rfl) ?_
  refine lv_if_lt (tgt := 22) hx hb dX1_countOf_1 (by decide) (fun c0 => absurd c0 (by decide)) (fun _ => ?_)
  refine lv_iload_n hx hb dX1_countOf_4 rfl (lv_at hl 1 rfl) ?_
  refine lv_bipush (v := 6) hx hb dX1_countOf_5 (by decide) ?_
  refine lv_icmp_ge (tgt := 22) hx hb dX1_countOf_7 (by decide) (fun c0 => absurd c0 (by decide)) (fun _ => ?_)
  refine lv_aload_n hx hb dX1_countOf_10 rfl (lv_at hl 0 rfl) ?_
  refine va_get (D := D) (ci := 6) (v := .ref h1) (C := RX1) (T := TX1) (N := 1) hx hb hts iv_k_X1_countOf_0_X1 hown hK hP 0 rfl rfl 0 (by decide) (hts (.fieldLink RX1 9 "AnswerFold$AtomSet" "words" "[J") (by decide +kernel)) (fun _ h9 => h9) rfl dX1_countOf_11 ?_
  refine lv_iload_n hx hb dX1_countOf_14 rfl (lv_at hl 1 rfl) ?_
  refine va_lald (D := D) hx hb hK hP 1 1 rfl rfl (vp_in_iff.mpr (by decide)) dX1_countOf_15 ?_
  refine lv_topl (nm_r (e' := 0) (by first | rfl | decide | exact wq_sel hlt (by decide)) ?_)
  refine wq_i (wc := []) (wr := [(h0, .inr (6, [.ref h1])), (h1, .inl (ty 1, 6, .inr (.inl (fun _ => 0))))]) (va_runS (As := [.long 0]) (rest := []) ⟨hx, hb, hml, hown, hts⟩ (k_J13_bitCount_0 l D ty td mi s.heap.size) (va_cwS 1 hts gv_k_X1_countOf_0_0 rfl rfl rfl (by decide +kernel) ⟨(Nat.le_of_ble_eq_true rfl), (Nat.le_of_ble_eq_true rfl)⟩) (wq_preS hP hD hK hE hS hA [] rfl (by decide)) rfl rfl hl.1 rfl (lv_room (Nat.le_of_ble_eq_true rfl)) dX1_countOf_16 ⟨(Nat.le_of_ble_eq_true rfl), (Nat.le_of_ble_eq_true rfl)⟩) hS hA hP hD [] [0, 1] rfl rfl (by decide) (by decide) (fun r u H locs hw hP hD hS => ?_)
  obtain ⟨rfl, rfl⟩ := hw
  have hP : va_P D vwCl [(h0, .inr (6, [.ref h1])), (h1, .inl (ty 1, 6, .inr (.inl (fun _ => 0))))] H := hP
  have hD : va_D A [(h0, .inr (6, [.ref h1])), (h1, .inl (ty 1, 6, .inr (.inl (fun _ => 0))))] := hD
  refine W.widen (k := 0) (n := 0) (Nat.le_of_ble_eq_true rfl) (Nat.le_of_ble_eq_true rfl) ?_
  refine lv_goto (tgt := 23) hx hb dX1_countOf_19 (by decide) ?_
  have hP9 := hP.sub (ws' := [(h0, .inr (6, [.ref h1])), (h1, .inl (ty 1, 6, .inr (.inl (fun _ => 0))))]) [0, 1] rfl
  have hD9 := hD.sub (ws' := [(h0, .inr (6, [.ref h1])), (h1, .inl (ty 1, 6, .inr (.inl (fun _ => 0))))]) [0, 1] (by decide) rfl
  refine W.widen (k := 0) (n := 0) (Nat.le_of_ble_eq_true rfl) (Nat.le_of_ble_eq_true rfl) ?_
  exact W.iret (v := 0) hx hb hr (fun t ht hW => ⟨⟨0, [(h0, .inr (6, [.ref h1])), (h1, .inl (ty 1, 6, .inr (.inl (fun _ => 0))))], rfl, ⟨rfl, rfl⟩, wq_B.of ht hP9 hD9⟩, hS.F ht⟩) hS.2.2 dX1_countOf_23
def vs_k_X1_countOf_1 : List Cond := .code yX1_countOf cX1_countOf 2 (some .int) :: ([.fieldLink RX1 9 "AnswerFold$AtomSet" "words" "[J", .methodLink RX1 17 yJ13_bitCount_95d88, .static yJ13_bitCount_95d88, .initialized RJ13] ++ (u_ws RX1 TX1 1 ++ (vs_k_J13_bitCount_0)))
theorem iv_k_X1_countOf_1_X1 : ∀ w ∈ u_ws RX1 TX1 1, w ∈ vs_k_X1_countOf_1 := (fun _ h => List.mem_cons_of_mem _ (List.mem_append_right _ (List.mem_append_left _ h)))
set_option maxRecDepth 20000 in
theorem gv_k_X1_countOf_1_0 : GoodIn vs_k_X1_countOf_1 (va_wsS RX1 17 yJ13_bitCount_95d88 vs_k_J13_bitCount_0) := goodIn_app (goodIn_sub (by decide +kernel) (by decide +kernel)) (goodIn_sub (fun _ h => List.mem_cons_of_mem _ (List.mem_append_right _ (List.mem_append_right _ (h)))) (by decide +kernel))
set_option maxHeartbeats 4000000 in
set_option maxRecDepth 100000 in
theorem k_X1_countOf_1 (l : Launch) (D : va_G) (ty : Nat → ClassId) (td mi sz : Nat) (h0 : Nat) (h1 : Nat) : Met l yX1_countOf vs_k_X1_countOf_1 { frames := 1, cells := 0, slots := 0, locals := 21 } (va_Pc [.ref h0, .int 1] (wq_P D ty td mi [(h0, .inr (6, [.ref h1])), (h1, .inl (ty 1, 6, .inr (.inl (fun _ => 0))))] sz)) (va_Qi (fun (r : Int32) (u : va_W) => (r = 0 ∧ (u = [(h0, .inr (6, [.ref h1])), (h1, .inl (ty 1, 6, .inr (.inl (fun _ => 0))))]))) (wq_B D (va_A [(h0, .inr (6, [.ref h1])), (h1, .inl (ty 1, 6, .inr (.inl (fun _ => 0))))] sz)) (va_A [(h0, .inr (6, [.ref h1])), (h1, .inl (ty 1, 6, .inr (.inl (fun _ => 0))))] sz)) 0 0 (va_A [(h0, .inr (6, [.ref h1])), (h1, .inl (ty 1, 6, .inr (.inl (fun _ => 0))))] sz) := by
  refine Met.ofW (cc := cX1_countOf) (maxL := 2) (ret := (some .int)) (by decide) rfl ?_
  intro p e s m args below meth c s₁ B hml hv
  obtain ⟨rfl, hsz, hP, hK, hD0, hE⟩ := hv
  have hx := B.exec
  have hb := B.bytes
  have hr := B.returns
  have hts := atoms_spec (ws := vs_k_X1_countOf_1) B.pre
  have hown : s.vm.findClass RX1 = some m.cls := findClass_of_methodNamed B.named
  have hlocks := B.notSynchronized
  subst hsz
  have hD := hD0.self (sz := s.heap.size)
  generalize hAe : va_A [(h0, .inr (6, [.ref h1])), (h1, .inl (ty 1, 6, .inr (.inl (fun _ => 0))))] s.heap.size = A at hD hE ⊢
  have hA : ∀ q : Nat, s.heap.size ≤ q → A q := fun q h => by rw [← hAe]; exact Or.inr h
  have hS : va_S A s.heap s.heap [] := va_S.rf
  have hP : va_P D vwCl [(h0, .inr (6, [.ref h1])), (h1, .inl (ty 1, 6, .inr (.inl (fun _ => 0))))] s.heap := hP
  have hl := lv_entry ([.ref h0, .int 1]) (n := 2) (Nat.le_of_ble_eq_true rfl)
  rw [lg_entry_eq]
  generalize (lg_sl ([.ref h0, .int 1]) ++ List.replicate (2 - (lg_sl ([.ref h0, .int 1])).length) Slot.unset).toArray = ls at hl ⊢
  have hl : lv_has ls 2 [(0, .ref h0), (1, .int 1)] := hl
  refine lv_iload_n hx hb dX1_countOf_0 rfl (lv_at hl 1 rfl) ?_
  refine lv_if_lt (tgt := 22) hx hb dX1_countOf_1 (by decide) (fun c0 => absurd c0 (by decide)) (fun _ => ?_)
  refine lv_iload_n hx hb dX1_countOf_4 rfl (lv_at hl 1 rfl) ?_
  refine lv_bipush (v := 6) hx hb dX1_countOf_5 (by decide) ?_
  refine lv_icmp_ge (tgt := 22) hx hb dX1_countOf_7 (by decide) (fun c0 => absurd c0 (by decide)) (fun _ => ?_)
  refine lv_aload_n hx hb dX1_countOf_10 rfl (lv_at hl 0 rfl) ?_
  refine va_get (D := D) (ci := 6) (v := .ref h1) (C := RX1) (T := TX1) (N := 1) hx hb hts iv_k_X1_countOf_1_X1 hown hK hP 0 rfl rfl 0 (by decide) (hts (.fieldLink RX1 9 "AnswerFold$AtomSet" "words" "[J") (by decide +kernel)) (fun _ h9 => h9) rfl dX1_countOf_11 ?_
  refine lv_iload_n hx hb dX1_countOf_14 rfl (lv_at hl 1 rfl) ?_
  refine va_lald (D := D) hx hb hK hP 1 1 rfl rfl (vp_in_iff.mpr (by decide)) dX1_countOf_15 ?_
  refine lv_topl (nm_r (e' := 0) (by first | rfl | decide | exact wq_sel hlt (by decide)) ?_)
  refine wq_i (wc := []) (wr := [(h0, .inr (6, [.ref h1])), (h1, .inl (ty 1, 6, .inr (.inl (fun _ => 0))))]) (va_runS (As := [.long 0]) (rest := []) ⟨hx, hb, hml, hown, hts⟩ (k_J13_bitCount_0 l D ty td mi s.heap.size) (va_cwS 1 hts gv_k_X1_countOf_1_0 rfl rfl rfl (by decide +kernel) ⟨(Nat.le_of_ble_eq_true rfl), (Nat.le_of_ble_eq_true rfl)⟩) (wq_preS hP hD hK hE hS hA [] rfl (by decide)) rfl rfl hl.1 rfl (lv_room (Nat.le_of_ble_eq_true rfl)) dX1_countOf_16 ⟨(Nat.le_of_ble_eq_true rfl), (Nat.le_of_ble_eq_true rfl)⟩) hS hA hP hD [] [0, 1] rfl rfl (by decide) (by decide) (fun r u H locs hw hP hD hS => ?_)
  obtain ⟨rfl, rfl⟩ := hw
  have hP : va_P D vwCl [(h0, .inr (6, [.ref h1])), (h1, .inl (ty 1, 6, .inr (.inl (fun _ => 0))))] H := hP
  have hD : va_D A [(h0, .inr (6, [.ref h1])), (h1, .inl (ty 1, 6, .inr (.inl (fun _ => 0))))] := hD
  refine W.widen (k := 0) (n := 0) (Nat.le_of_ble_eq_true rfl) (Nat.le_of_ble_eq_true rfl) ?_
  refine lv_goto (tgt := 23) hx hb dX1_countOf_19 (by decide) ?_
  have hP9 := hP.sub (ws' := [(h0, .inr (6, [.ref h1])), (h1, .inl (ty 1, 6, .inr (.inl (fun _ => 0))))]) [0, 1] rfl
  have hD9 := hD.sub (ws' := [(h0, .inr (6, [.ref h1])), (h1, .inl (ty 1, 6, .inr (.inl (fun _ => 0))))]) [0, 1] (by decide) rfl
  refine W.widen (k := 0) (n := 0) (Nat.le_of_ble_eq_true rfl) (Nat.le_of_ble_eq_true rfl) ?_
  exact W.iret (v := 0) hx hb hr (fun t ht hW => ⟨⟨0, [(h0, .inr (6, [.ref h1])), (h1, .inl (ty 1, 6, .inr (.inl (fun _ => 0))))], rfl, ⟨rfl, rfl⟩, wq_B.of ht hP9 hD9⟩, hS.F ht⟩) hS.2.2 dX1_countOf_23
def vs_k_X1_countOf_2 : List Cond := .code yX1_countOf cX1_countOf 2 (some .int) :: ([.fieldLink RX1 9 "AnswerFold$AtomSet" "words" "[J", .methodLink RX1 17 yJ13_bitCount_95d88, .static yJ13_bitCount_95d88, .initialized RJ13] ++ (u_ws RX1 TX1 1 ++ (vs_k_J13_bitCount_0)))
theorem iv_k_X1_countOf_2_X1 : ∀ w ∈ u_ws RX1 TX1 1, w ∈ vs_k_X1_countOf_2 := (fun _ h => List.mem_cons_of_mem _ (List.mem_append_right _ (List.mem_append_left _ h)))
set_option maxRecDepth 20000 in
theorem gv_k_X1_countOf_2_0 : GoodIn vs_k_X1_countOf_2 (va_wsS RX1 17 yJ13_bitCount_95d88 vs_k_J13_bitCount_0) := goodIn_app (goodIn_sub (by decide +kernel) (by decide +kernel)) (goodIn_sub (fun _ h => List.mem_cons_of_mem _ (List.mem_append_right _ (List.mem_append_right _ (h)))) (by decide +kernel))
set_option maxHeartbeats 4000000 in
set_option maxRecDepth 100000 in
theorem k_X1_countOf_2 (l : Launch) (D : va_G) (ty : Nat → ClassId) (td mi sz : Nat) (h0 : Nat) (h1 : Nat) : Met l yX1_countOf vs_k_X1_countOf_2 { frames := 1, cells := 0, slots := 0, locals := 21 } (va_Pc [.ref h0, .int 2] (wq_P D ty td mi [(h0, .inr (6, [.ref h1])), (h1, .inl (ty 1, 6, .inr (.inl (fun _ => 0))))] sz)) (va_Qi (fun (r : Int32) (u : va_W) => (r = 0 ∧ (u = [(h0, .inr (6, [.ref h1])), (h1, .inl (ty 1, 6, .inr (.inl (fun _ => 0))))]))) (wq_B D (va_A [(h0, .inr (6, [.ref h1])), (h1, .inl (ty 1, 6, .inr (.inl (fun _ => 0))))] sz)) (va_A [(h0, .inr (6, [.ref h1])), (h1, .inl (ty 1, 6, .inr (.inl (fun _ => 0))))] sz)) 0 0 (va_A [(h0, .inr (6, [.ref h1])), (h1, .inl (ty 1, 6, .inr (.inl (fun _ => 0))))] sz) := by
  refine Met.ofW (cc := cX1_countOf) (maxL := 2) (ret := (some .int)) (by decide) rfl ?_
  intro p e s m args below meth c s₁ B hml hv
  obtain ⟨rfl, hsz, hP, hK, hD0, hE⟩ := hv
  have hx := B.exec
  have hb := B.bytes
  have hr := B.returns
  have hts := atoms_spec (ws := vs_k_X1_countOf_2) B.pre
  have hown : s.vm.findClass RX1 = some m.cls := findClass_of_methodNamed B.named
  have hlocks := B.notSynchronized
  subst hsz
  have hD := hD0.self (sz := s.heap.size)
  generalize hAe : va_A [(h0, .inr (6, [.ref h1])), (h1, .inl (ty 1, 6, .inr (.inl (fun _ => 0))))] s.heap.size = A at hD hE ⊢
  have hA : ∀ q : Nat, s.heap.size ≤ q → A q := fun q h => by rw [← hAe]; exact Or.inr h
  have hS : va_S A s.heap s.heap [] := va_S.rf
  have hP : va_P D vwCl [(h0, .inr (6, [.ref h1])), (h1, .inl (ty 1, 6, .inr (.inl (fun _ => 0))))] s.heap := hP
  have hl := lv_entry ([.ref h0, .int 2]) (n := 2) (Nat.le_of_ble_eq_true rfl)
  rw [lg_entry_eq]
  generalize (lg_sl ([.ref h0, .int 2]) ++ List.replicate (2 - (lg_sl ([.ref h0, .int 2])).length) Slot.unset).toArray = ls at hl ⊢
  have hl : lv_has ls 2 [(0, .ref h0), (1, .int 2)] := hl
  refine lv_iload_n hx hb dX1_countOf_0 rfl (lv_at hl 1 rfl) ?_
  refine lv_if_lt (tgt := 22) hx hb dX1_countOf_1 (by decide) (fun c0 => absurd c0 (by decide)) (fun _ => ?_)
  refine lv_iload_n hx hb dX1_countOf_4 rfl (lv_at hl 1 rfl) ?_
  refine lv_bipush (v := 6) hx hb dX1_countOf_5 (by decide) ?_
  refine lv_icmp_ge (tgt := 22) hx hb dX1_countOf_7 (by decide) (fun c0 => absurd c0 (by decide)) (fun _ => ?_)
  refine lv_aload_n hx hb dX1_countOf_10 rfl (lv_at hl 0 rfl) ?_
  refine va_get (D := D) (ci := 6) (v := .ref h1) (C := RX1) (T := TX1) (N := 1) hx hb hts iv_k_X1_countOf_2_X1 hown hK hP 0 rfl rfl 0 (by decide) (hts (.fieldLink RX1 9 "AnswerFold$AtomSet" "words" "[J") (by decide +kernel)) (fun _ h9 => h9) rfl dX1_countOf_11 ?_
  refine lv_iload_n hx hb dX1_countOf_14 rfl (lv_at hl 1 rfl) ?_
  refine va_lald (D := D) hx hb hK hP 1 1 rfl rfl (vp_in_iff.mpr (by decide)) dX1_countOf_15 ?_
  refine lv_topl (nm_r (e' := 0) (by first | rfl | decide | exact wq_sel hlt (by decide)) ?_)
  refine wq_i (wc := []) (wr := [(h0, .inr (6, [.ref h1])), (h1, .inl (ty 1, 6, .inr (.inl (fun _ => 0))))]) (va_runS (As := [.long 0]) (rest := []) ⟨hx, hb, hml, hown, hts⟩ (k_J13_bitCount_0 l D ty td mi s.heap.size) (va_cwS 1 hts gv_k_X1_countOf_2_0 rfl rfl rfl (by decide +kernel) ⟨(Nat.le_of_ble_eq_true rfl), (Nat.le_of_ble_eq_true rfl)⟩) (wq_preS hP hD hK hE hS hA [] rfl (by decide)) rfl rfl hl.1 rfl (lv_room (Nat.le_of_ble_eq_true rfl)) dX1_countOf_16 ⟨(Nat.le_of_ble_eq_true rfl), (Nat.le_of_ble_eq_true rfl)⟩) hS hA hP hD [] [0, 1] rfl rfl (by decide) (by decide) (fun r u H locs hw hP hD hS => ?_)
  obtain ⟨rfl, rfl⟩ := hw
  have hP : va_P D vwCl [(h0, .inr (6, [.ref h1])), (h1, .inl (ty 1, 6, .inr (.inl (fun _ => 0))))] H := hP
  have hD : va_D A [(h0, .inr (6, [.ref h1])), (h1, .inl (ty 1, 6, .inr (.inl (fun _ => 0))))] := hD
  refine W.widen (k := 0) (n := 0) (Nat.le_of_ble_eq_true rfl) (Nat.le_of_ble_eq_true rfl) ?_
  refine lv_goto (tgt := 23) hx hb dX1_countOf_19 (by decide) ?_
  have hP9 := hP.sub (ws' := [(h0, .inr (6, [.ref h1])), (h1, .inl (ty 1, 6, .inr (.inl (fun _ => 0))))]) [0, 1] rfl
  have hD9 := hD.sub (ws' := [(h0, .inr (6, [.ref h1])), (h1, .inl (ty 1, 6, .inr (.inl (fun _ => 0))))]) [0, 1] (by decide) rfl
  refine W.widen (k := 0) (n := 0) (Nat.le_of_ble_eq_true rfl) (Nat.le_of_ble_eq_true rfl) ?_
  exact W.iret (v := 0) hx hb hr (fun t ht hW => ⟨⟨0, [(h0, .inr (6, [.ref h1])), (h1, .inl (ty 1, 6, .inr (.inl (fun _ => 0))))], rfl, ⟨rfl, rfl⟩, wq_B.of ht hP9 hD9⟩, hS.F ht⟩) hS.2.2 dX1_countOf_23
def vs_k_X1_countOf_3 : List Cond := .code yX1_countOf cX1_countOf 2 (some .int) :: ([.fieldLink RX1 9 "AnswerFold$AtomSet" "words" "[J", .methodLink RX1 17 yJ13_bitCount_95d88, .static yJ13_bitCount_95d88, .initialized RJ13] ++ (u_ws RX1 TX1 1 ++ (vs_k_J13_bitCount_0)))
theorem iv_k_X1_countOf_3_X1 : ∀ w ∈ u_ws RX1 TX1 1, w ∈ vs_k_X1_countOf_3 := (fun _ h => List.mem_cons_of_mem _ (List.mem_append_right _ (List.mem_append_left _ h)))
set_option maxRecDepth 20000 in
theorem gv_k_X1_countOf_3_0 : GoodIn vs_k_X1_countOf_3 (va_wsS RX1 17 yJ13_bitCount_95d88 vs_k_J13_bitCount_0) := goodIn_app (goodIn_sub (by decide +kernel) (by decide +kernel)) (goodIn_sub (fun _ h => List.mem_cons_of_mem _ (List.mem_append_right _ (List.mem_append_right _ (h)))) (by decide +kernel))
set_option maxHeartbeats 4000000 in
set_option maxRecDepth 100000 in
theorem k_X1_countOf_3 (l : Launch) (D : va_G) (ty : Nat → ClassId) (td mi sz : Nat) (h0 : Nat) (h1 : Nat) : Met l yX1_countOf vs_k_X1_countOf_3 { frames := 1, cells := 0, slots := 0, locals := 21 } (va_Pc [.ref h0, .int 3] (wq_P D ty td mi [(h0, .inr (6, [.ref h1])), (h1, .inl (ty 1, 6, .inr (.inl (fun _ => 0))))] sz)) (va_Qi (fun (r : Int32) (u : va_W) => (r = 0 ∧ (u = [(h0, .inr (6, [.ref h1])), (h1, .inl (ty 1, 6, .inr (.inl (fun _ => 0))))]))) (wq_B D (va_A [(h0, .inr (6, [.ref h1])), (h1, .inl (ty 1, 6, .inr (.inl (fun _ => 0))))] sz)) (va_A [(h0, .inr (6, [.ref h1])), (h1, .inl (ty 1, 6, .inr (.inl (fun _ => 0))))] sz)) 0 0 (va_A [(h0, .inr (6, [.ref h1])), (h1, .inl (ty 1, 6, .inr (.inl (fun _ => 0))))] sz) := by
  refine Met.ofW (cc := cX1_countOf) (maxL := 2) (ret := (some .int)) (by decide) rfl ?_
  intro p e s m args below meth c s₁ B hml hv
  obtain ⟨rfl, hsz, hP, hK, hD0, hE⟩ := hv
  have hx := B.exec
  have hb := B.bytes
  have hr := B.returns
  have hts := atoms_spec (ws := vs_k_X1_countOf_3) B.pre
  have hown : s.vm.findClass RX1 = some m.cls := findClass_of_methodNamed B.named
  have hlocks := B.notSynchronized
  subst hsz
  have hD := hD0.self (sz := s.heap.size)
  generalize hAe : va_A [(h0, .inr (6, [.ref h1])), (h1, .inl (ty 1, 6, .inr (.inl (fun _ => 0))))] s.heap.size = A at hD hE ⊢
  have hA : ∀ q : Nat, s.heap.size ≤ q → A q := fun q h => by rw [← hAe]; exact Or.inr h
  have hS : va_S A s.heap s.heap [] := va_S.rf
  have hP : va_P D vwCl [(h0, .inr (6, [.ref h1])), (h1, .inl (ty 1, 6, .inr (.inl (fun _ => 0))))] s.heap := hP
  have hl := lv_entry ([.ref h0, .int 3]) (n := 2) (Nat.le_of_ble_eq_true rfl)
  rw [lg_entry_eq]
  generalize (lg_sl ([.ref h0, .int 3]) ++ List.replicate (2 - (lg_sl ([.ref h0, .int 3])).length) Slot.unset).toArray = ls at hl ⊢
  have hl : lv_has ls 2 [(0, .ref h0), (1, .int 3)] := hl
  refine lv_iload_n hx hb dX1_countOf_0 rfl (lv_at hl 1 rfl) ?_
  refine lv_if_lt (tgt := 22) hx hb dX1_countOf_1 (by decide) (fun c0 => absurd c0 (by decide)) (fun _ => ?_)
  refine lv_iload_n hx hb dX1_countOf_4 rfl (lv_at hl 1 rfl) ?_
  refine lv_bipush (v := 6) hx hb dX1_countOf_5 (by decide) ?_
  refine lv_icmp_ge (tgt := 22) hx hb dX1_countOf_7 (by decide) (fun c0 => absurd c0 (by decide)) (fun _ => ?_)
  refine lv_aload_n hx hb dX1_countOf_10 rfl (lv_at hl 0 rfl) ?_
  refine va_get (D := D) (ci := 6) (v := .ref h1) (C := RX1) (T := TX1) (N := 1) hx hb hts iv_k_X1_countOf_3_X1 hown hK hP 0 rfl rfl 0 (by decide) (hts (.fieldLink RX1 9 "AnswerFold$AtomSet" "words" "[J") (by decide +kernel)) (fun _ h9 => h9) rfl dX1_countOf_11 ?_
  refine lv_iload_n hx hb dX1_countOf_14 rfl (lv_at hl 1 rfl) ?_
  refine va_lald (D := D) hx hb hK hP 1 1 rfl rfl (vp_in_iff.mpr (by decide)) dX1_countOf_15 ?_
  refine lv_topl (nm_r (e' := 0) (by first | rfl | decide | exact wq_sel hlt (by decide)) ?_)
  refine wq_i (wc := []) (wr := [(h0, .inr (6, [.ref h1])), (h1, .inl (ty 1, 6, .inr (.inl (fun _ => 0))))]) (va_runS (As := [.long 0]) (rest := []) ⟨hx, hb, hml, hown, hts⟩ (k_J13_bitCount_0 l D ty td mi s.heap.size) (va_cwS 1 hts gv_k_X1_countOf_3_0 rfl rfl rfl (by decide +kernel) ⟨(Nat.le_of_ble_eq_true rfl), (Nat.le_of_ble_eq_true rfl)⟩) (wq_preS hP hD hK hE hS hA [] rfl (by decide)) rfl rfl hl.1 rfl (lv_room (Nat.le_of_ble_eq_true rfl)) dX1_countOf_16 ⟨(Nat.le_of_ble_eq_true rfl), (Nat.le_of_ble_eq_true rfl)⟩) hS hA hP hD [] [0, 1] rfl rfl (by decide) (by decide) (fun r u H locs hw hP hD hS => ?_)
  obtain ⟨rfl, rfl⟩ := hw
  have hP : va_P D vwCl [(h0, .inr (6, [.ref h1])), (h1, .inl (ty 1, 6, .inr (.inl (fun _ => 0))))] H := hP
  have hD : va_D A [(h0, .inr (6, [.ref h1])), (h1, .inl (ty 1, 6, .inr (.inl (fun _ => 0))))] := hD
  refine W.widen (k := 0) (n := 0) (Nat.le_of_ble_eq_true rfl) (Nat.le_of_ble_eq_true rfl) ?_
  refine lv_goto (tgt := 23) hx hb dX1_countOf_19 (by decide) ?_
  have hP9 := hP.sub (ws' := [(h0, .inr (6, [.ref h1])), (h1, .inl (ty 1, 6, .inr (.inl (fun _ => 0))))]) [0, 1] rfl
  have hD9 := hD.sub (ws' := [(h0, .inr (6, [.ref h1])), (h1, .inl (ty 1, 6, .inr (.inl (fun _ => 0))))]) [0, 1] (by decide) rfl
  refine W.widen (k := 0) (n := 0) (Nat.le_of_ble_eq_true rfl) (Nat.le_of_ble_eq_true rfl) ?_
  exact W.iret (v := 0) hx hb hr (fun t ht hW => ⟨⟨0, [(h0, .inr (6, [.ref h1])), (h1, .inl (ty 1, 6, .inr (.inl (fun _ => 0))))], rfl, ⟨rfl, rfl⟩, wq_B.of ht hP9 hD9⟩, hS.F ht⟩) hS.2.2 dX1_countOf_23
def vs_k_X1_countOf_4 : List Cond := .code yX1_countOf cX1_countOf 2 (some .int) :: ([.fieldLink RX1 9 "AnswerFold$AtomSet" "words" "[J", .methodLink RX1 17 yJ13_bitCount_95d88, .static yJ13_bitCount_95d88, .initialized RJ13] ++ (u_ws RX1 TX1 1 ++ (vs_k_J13_bitCount_0)))
theorem iv_k_X1_countOf_4_X1 : ∀ w ∈ u_ws RX1 TX1 1, w ∈ vs_k_X1_countOf_4 := (fun _ h => List.mem_cons_of_mem _ (List.mem_append_right _ (List.mem_append_left _ h)))
set_option maxRecDepth 20000 in
theorem gv_k_X1_countOf_4_0 : GoodIn vs_k_X1_countOf_4 (va_wsS RX1 17 yJ13_bitCount_95d88 vs_k_J13_bitCount_0) := goodIn_app (goodIn_sub (by decide +kernel) (by decide +kernel)) (goodIn_sub (fun _ h => List.mem_cons_of_mem _ (List.mem_append_right _ (List.mem_append_right _ (h)))) (by decide +kernel))
set_option maxHeartbeats 4000000 in
set_option maxRecDepth 100000 in
theorem k_X1_countOf_4 (l : Launch) (D : va_G) (ty : Nat → ClassId) (td mi sz : Nat) (h0 : Nat) (h1 : Nat) : Met l yX1_countOf vs_k_X1_countOf_4 { frames := 1, cells := 0, slots := 0, locals := 21 } (va_Pc [.ref h0, .int 4] (wq_P D ty td mi [(h0, .inr (6, [.ref h1])), (h1, .inl (ty 1, 6, .inr (.inl (fun _ => 0))))] sz)) (va_Qi (fun (r : Int32) (u : va_W) => (r = 0 ∧ (u = [(h0, .inr (6, [.ref h1])), (h1, .inl (ty 1, 6, .inr (.inl (fun _ => 0))))]))) (wq_B D (va_A [(h0, .inr (6, [.ref h1])), (h1, .inl (ty 1, 6, .inr (.inl (fun _ => 0))))] sz)) (va_A [(h0, .inr (6, [.ref h1])), (h1, .inl (ty 1, 6, .inr (.inl (fun _ => 0))))] sz)) 0 0 (va_A [(h0, .inr (6, [.ref h1])), (h1, .inl (ty 1, 6, .inr (.inl (fun _ => 0))))] sz) := by
  refine Met.ofW (cc := cX1_countOf) (maxL := 2) (ret := (some .int)) (by decide) rfl ?_
  intro p e s m args below meth c s₁ B hml hv
  obtain ⟨rfl, hsz, hP, hK, hD0, hE⟩ := hv
  have hx := B.exec
  have hb := B.bytes
  have hr := B.returns
  have hts := atoms_spec (ws := vs_k_X1_countOf_4) B.pre
  have hown : s.vm.findClass RX1 = some m.cls := findClass_of_methodNamed B.named
  have hlocks := B.notSynchronized
  subst hsz
  have hD := hD0.self (sz := s.heap.size)
  generalize hAe : va_A [(h0, .inr (6, [.ref h1])), (h1, .inl (ty 1, 6, .inr (.inl (fun _ => 0))))] s.heap.size = A at hD hE ⊢
  have hA : ∀ q : Nat, s.heap.size ≤ q → A q := fun q h => by rw [← hAe]; exact Or.inr h
  have hS : va_S A s.heap s.heap [] := va_S.rf
  have hP : va_P D vwCl [(h0, .inr (6, [.ref h1])), (h1, .inl (ty 1, 6, .inr (.inl (fun _ => 0))))] s.heap := hP
  have hl := lv_entry ([.ref h0, .int 4]) (n := 2) (Nat.le_of_ble_eq_true rfl)
  rw [lg_entry_eq]
  generalize (lg_sl ([.ref h0, .int 4]) ++ List.replicate (2 - (lg_sl ([.ref h0, .int 4])).length) Slot.unset).toArray = ls at hl ⊢
  have hl : lv_has ls 2 [(0, .ref h0), (1, .int 4)] := hl
  refine lv_iload_n hx hb dX1_countOf_0 rfl (lv_at hl 1 rfl) ?_
  refine lv_if_lt (tgt := 22) hx hb dX1_countOf_1 (by decide) (fun c0 => absurd c0 (by decide)) (fun _ => ?_)
  refine lv_iload_n hx hb dX1_countOf_4 rfl (lv_at hl 1 rfl) ?_
  refine lv_bipush (v := 6) hx hb dX1_countOf_5 (by decide) ?_
  refine lv_icmp_ge (tgt := 22) hx hb dX1_countOf_7 (by decide) (fun c0 => absurd c0 (by decide)) (fun _ => ?_)
  refine lv_aload_n hx hb dX1_countOf_10 rfl (lv_at hl 0 rfl) ?_
  refine va_get (D := D) (ci := 6) (v := .ref h1) (C := RX1) (T := TX1) (N := 1) hx hb hts iv_k_X1_countOf_4_X1 hown hK hP 0 rfl rfl 0 (by decide) (hts (.fieldLink RX1 9 "AnswerFold$AtomSet" "words" "[J") (by decide +kernel)) (fun _ h9 => h9) rfl dX1_countOf_11 ?_
  refine lv_iload_n hx hb dX1_countOf_14 rfl (lv_at hl 1 rfl) ?_
  refine va_lald (D := D) hx hb hK hP 1 1 rfl rfl (vp_in_iff.mpr (by decide)) dX1_countOf_15 ?_
  refine lv_topl (nm_r (e' := 0) (by first | rfl | decide | exact wq_sel hlt (by decide)) ?_)
  refine wq_i (wc := []) (wr := [(h0, .inr (6, [.ref h1])), (h1, .inl (ty 1, 6, .inr (.inl (fun _ => 0))))]) (va_runS (As := [.long 0]) (rest := []) ⟨hx, hb, hml, hown, hts⟩ (k_J13_bitCount_0 l D ty td mi s.heap.size) (va_cwS 1 hts gv_k_X1_countOf_4_0 rfl rfl rfl (by decide +kernel) ⟨(Nat.le_of_ble_eq_true rfl), (Nat.le_of_ble_eq_true rfl)⟩) (wq_preS hP hD hK hE hS hA [] rfl (by decide)) rfl rfl hl.1 rfl (lv_room (Nat.le_of_ble_eq_true rfl)) dX1_countOf_16 ⟨(Nat.le_of_ble_eq_true rfl), (Nat.le_of_ble_eq_true rfl)⟩) hS hA hP hD [] [0, 1] rfl rfl (by decide) (by decide) (fun r u H locs hw hP hD hS => ?_)
  obtain ⟨rfl, rfl⟩ := hw
  have hP : va_P D vwCl [(h0, .inr (6, [.ref h1])), (h1, .inl (ty 1, 6, .inr (.inl (fun _ => 0))))] H := hP
  have hD : va_D A [(h0, .inr (6, [.ref h1])), (h1, .inl (ty 1, 6, .inr (.inl (fun _ => 0))))] := hD
  refine W.widen (k := 0) (n := 0) (Nat.le_of_ble_eq_true rfl) (Nat.le_of_ble_eq_true rfl) ?_
  refine lv_goto (tgt := 23) hx hb dX1_countOf_19 (by decide) ?_
  have hP9 := hP.sub (ws' := [(h0, .inr (6, [.ref h1])), (h1, .inl (ty 1, 6, .inr (.inl (fun _ => 0))))]) [0, 1] rfl
  have hD9 := hD.sub (ws' := [(h0, .inr (6, [.ref h1])), (h1, .inl (ty 1, 6, .inr (.inl (fun _ => 0))))]) [0, 1] (by decide) rfl
  refine W.widen (k := 0) (n := 0) (Nat.le_of_ble_eq_true rfl) (Nat.le_of_ble_eq_true rfl) ?_
  exact W.iret (v := 0) hx hb hr (fun t ht hW => ⟨⟨0, [(h0, .inr (6, [.ref h1])), (h1, .inl (ty 1, 6, .inr (.inl (fun _ => 0))))], rfl, ⟨rfl, rfl⟩, wq_B.of ht hP9 hD9⟩, hS.F ht⟩) hS.2.2 dX1_countOf_23
def vs_k_X1_countOf_5 : List Cond := .code yX1_countOf cX1_countOf 2 (some .int) :: ([.fieldLink RX1 9 "AnswerFold$AtomSet" "words" "[J", .methodLink RX1 17 yJ13_bitCount_95d88, .static yJ13_bitCount_95d88, .initialized RJ13] ++ (u_ws RX1 TX1 1 ++ (vs_k_J13_bitCount_0)))
theorem iv_k_X1_countOf_5_X1 : ∀ w ∈ u_ws RX1 TX1 1, w ∈ vs_k_X1_countOf_5 := (fun _ h => List.mem_cons_of_mem _ (List.mem_append_right _ (List.mem_append_left _ h)))
set_option maxRecDepth 20000 in
theorem gv_k_X1_countOf_5_0 : GoodIn vs_k_X1_countOf_5 (va_wsS RX1 17 yJ13_bitCount_95d88 vs_k_J13_bitCount_0) := goodIn_app (goodIn_sub (by decide +kernel) (by decide +kernel)) (goodIn_sub (fun _ h => List.mem_cons_of_mem _ (List.mem_append_right _ (List.mem_append_right _ (h)))) (by decide +kernel))
set_option maxHeartbeats 4000000 in
set_option maxRecDepth 100000 in
theorem k_X1_countOf_5 (l : Launch) (D : va_G) (ty : Nat → ClassId) (td mi sz : Nat) (h0 : Nat) (h1 : Nat) : Met l yX1_countOf vs_k_X1_countOf_5 { frames := 1, cells := 0, slots := 0, locals := 21 } (va_Pc [.ref h0, .int 5] (wq_P D ty td mi [(h0, .inr (6, [.ref h1])), (h1, .inl (ty 1, 6, .inr (.inl (fun _ => 0))))] sz)) (va_Qi (fun (r : Int32) (u : va_W) => (r = 0 ∧ (u = [(h0, .inr (6, [.ref h1])), (h1, .inl (ty 1, 6, .inr (.inl (fun _ => 0))))]))) (wq_B D (va_A [(h0, .inr (6, [.ref h1])), (h1, .inl (ty 1, 6, .inr (.inl (fun _ => 0))))] sz)) (va_A [(h0, .inr (6, [.ref h1])), (h1, .inl (ty 1, 6, .inr (.inl (fun _ => 0))))] sz)) 0 0 (va_A [(h0, .inr (6, [.ref h1])), (h1, .inl (ty 1, 6, .inr (.inl (fun _ => 0))))] sz) := by
  refine Met.ofW (cc := cX1_countOf) (maxL := 2) (ret := (some .int)) (by decide) rfl ?_
  intro p e s m args below meth c s₁ B hml hv
  obtain ⟨rfl, hsz, hP, hK, hD0, hE⟩ := hv
  have hx := B.exec
  have hb := B.bytes
  have hr := B.returns
  have hts := atoms_spec (ws := vs_k_X1_countOf_5) B.pre
  have hown : s.vm.findClass RX1 = some m.cls := findClass_of_methodNamed B.named
  have hlocks := B.notSynchronized
  subst hsz
  have hD := hD0.self (sz := s.heap.size)
  generalize hAe : va_A [(h0, .inr (6, [.ref h1])), (h1, .inl (ty 1, 6, .inr (.inl (fun _ => 0))))] s.heap.size = A at hD hE ⊢
  have hA : ∀ q : Nat, s.heap.size ≤ q → A q := fun q h => by rw [← hAe]; exact Or.inr h
  have hS : va_S A s.heap s.heap [] := va_S.rf
  have hP : va_P D vwCl [(h0, .inr (6, [.ref h1])), (h1, .inl (ty 1, 6, .inr (.inl (fun _ => 0))))] s.heap := hP
  have hl := lv_entry ([.ref h0, .int 5]) (n := 2) (Nat.le_of_ble_eq_true rfl)
  rw [lg_entry_eq]
  generalize (lg_sl ([.ref h0, .int 5]) ++ List.replicate (2 - (lg_sl ([.ref h0, .int 5])).length) Slot.unset).toArray = ls at hl ⊢
  have hl : lv_has ls 2 [(0, .ref h0), (1, .int 5)] := hl
  refine lv_iload_n hx hb dX1_countOf_0 rfl (lv_at hl 1 rfl) ?_
  refine lv_if_lt (tgt := 22) hx hb dX1_countOf_1 (by decide) (fun c0 => absurd c0 (by decide)) (fun _ => ?_)
  refine lv_iload_n hx hb dX1_countOf_4 rfl (lv_at hl 1 rfl) ?_
  refine lv_bipush (v := 6) hx hb dX1_countOf_5 (by decide) ?_
  refine lv_icmp_ge (tgt := 22) hx hb dX1_countOf_7 (by decide) (fun c0 => absurd c0 (by decide)) (fun _ => ?_)
  refine lv_aload_n hx hb dX1_countOf_10 rfl (lv_at hl 0 rfl) ?_
  refine va_get (D := D) (ci := 6) (v := .ref h1) (C := RX1) (T := TX1) (N := 1) hx hb hts iv_k_X1_countOf_5_X1 hown hK hP 0 rfl rfl 0 (by decide) (hts (.fieldLink RX1 9 "AnswerFold$AtomSet" "words" "[J") (by decide +kernel)) (fun _ h9 => h9) rfl dX1_countOf_11 ?_
  refine lv_iload_n hx hb dX1_countOf_14 rfl (lv_at hl 1 rfl) ?_
  refine va_lald (D := D) hx hb hK hP 1 1 rfl rfl (vp_in_iff.mpr (by decide)) dX1_countOf_15 ?_
  refine lv_topl (nm_r (e' := 0) (by first | rfl | decide | exact wq_sel hlt (by decide)) ?_)
  refine wq_i (wc := []) (wr := [(h0, .inr (6, [.ref h1])), (h1, .inl (ty 1, 6, .inr (.inl (fun _ => 0))))]) (va_runS (As := [.long 0]) (rest := []) ⟨hx, hb, hml, hown, hts⟩ (k_J13_bitCount_0 l D ty td mi s.heap.size) (va_cwS 1 hts gv_k_X1_countOf_5_0 rfl rfl rfl (by decide +kernel) ⟨(Nat.le_of_ble_eq_true rfl), (Nat.le_of_ble_eq_true rfl)⟩) (wq_preS hP hD hK hE hS hA [] rfl (by decide)) rfl rfl hl.1 rfl (lv_room (Nat.le_of_ble_eq_true rfl)) dX1_countOf_16 ⟨(Nat.le_of_ble_eq_true rfl), (Nat.le_of_ble_eq_true rfl)⟩) hS hA hP hD [] [0, 1] rfl rfl (by decide) (by decide) (fun r u H locs hw hP hD hS => ?_)
  obtain ⟨rfl, rfl⟩ := hw
  have hP : va_P D vwCl [(h0, .inr (6, [.ref h1])), (h1, .inl (ty 1, 6, .inr (.inl (fun _ => 0))))] H := hP
  have hD : va_D A [(h0, .inr (6, [.ref h1])), (h1, .inl (ty 1, 6, .inr (.inl (fun _ => 0))))] := hD
  refine W.widen (k := 0) (n := 0) (Nat.le_of_ble_eq_true rfl) (Nat.le_of_ble_eq_true rfl) ?_
  refine lv_goto (tgt := 23) hx hb dX1_countOf_19 (by decide) ?_
  have hP9 := hP.sub (ws' := [(h0, .inr (6, [.ref h1])), (h1, .inl (ty 1, 6, .inr (.inl (fun _ => 0))))]) [0, 1] rfl
  have hD9 := hD.sub (ws' := [(h0, .inr (6, [.ref h1])), (h1, .inl (ty 1, 6, .inr (.inl (fun _ => 0))))]) [0, 1] (by decide) rfl
  refine W.widen (k := 0) (n := 0) (Nat.le_of_ble_eq_true rfl) (Nat.le_of_ble_eq_true rfl) ?_
  exact W.iret (v := 0) hx hb hr (fun t ht hW => ⟨⟨0, [(h0, .inr (6, [.ref h1])), (h1, .inl (ty 1, 6, .inr (.inl (fun _ => 0))))], rfl, ⟨rfl, rfl⟩, wq_B.of ht hP9 hD9⟩, hS.F ht⟩) hS.2.2 dX1_countOf_23
def vs_k_X1_count : List Cond := .code yX1_count cX1_count 3 (some .int) :: ([.methodLink RX1 23 yX1_countOf, .instanceMethod yX1_countOf, .selects RX1 yX1_countOf yX1_countOf, .initialized RX1] ++ (vs_k_X1_countOf_0 ++ (vs_k_X1_countOf_1 ++ (vs_k_X1_countOf_2 ++ (vs_k_X1_countOf_3 ++ (vs_k_X1_countOf_4 ++ (vs_k_X1_countOf_5)))))))
set_option maxRecDepth 20000 in
theorem gv_k_X1_count_0 : GoodIn vs_k_X1_count (wsV RX1 23 RX1 yX1_countOf vs_k_X1_countOf_0) := goodIn_app (goodIn_sub (by decide +kernel) (by decide +kernel)) (goodIn_sub (fun _ h => List.mem_cons_of_mem _ (List.mem_append_right _ (List.mem_append_left _ h))) (by decide +kernel))
set_option maxRecDepth 20000 in
theorem gv_k_X1_count_1 : GoodIn vs_k_X1_count (wsV RX1 23 RX1 yX1_countOf vs_k_X1_countOf_1) := goodIn_app (goodIn_sub (by decide +kernel) (by decide +kernel)) (goodIn_sub (fun _ h => List.mem_cons_of_mem _ (List.mem_append_right _ (List.mem_append_right _ (List.mem_append_left _ h)))) (by decide +kernel))
set_option maxRecDepth 20000 in
theorem gv_k_X1_count_2 : GoodIn vs_k_X1_count (wsV RX1 23 RX1 yX1_countOf vs_k_X1_countOf_2) := goodIn_app (goodIn_sub (by decide +kernel) (by decide +kernel)) (goodIn_sub (fun _ h => List.mem_cons_of_mem _ (List.mem_append_right _ (List.mem_append_right _ (List.mem_append_right _ (List.mem_append_left _ h))))) (by decide +kernel))
set_option maxRecDepth 20000 in
theorem gv_k_X1_count_3 : GoodIn vs_k_X1_count (wsV RX1 23 RX1 yX1_countOf vs_k_X1_countOf_3) := goodIn_app (goodIn_sub (by decide +kernel) (by decide +kernel)) (goodIn_sub (fun _ h => List.mem_cons_of_mem _ (List.mem_append_right _ (List.mem_append_right _ (List.mem_append_right _ (List.mem_append_right _ (List.mem_append_left _ h)))))) (by decide +kernel))
set_option maxRecDepth 20000 in
theorem gv_k_X1_count_4 : GoodIn vs_k_X1_count (wsV RX1 23 RX1 yX1_countOf vs_k_X1_countOf_4) := goodIn_app (goodIn_sub (by decide +kernel) (by decide +kernel)) (goodIn_sub (fun _ h => List.mem_cons_of_mem _ (List.mem_append_right _ (List.mem_append_right _ (List.mem_append_right _ (List.mem_append_right _ (List.mem_append_right _ (List.mem_append_left _ h))))))) (by decide +kernel))
set_option maxRecDepth 20000 in
theorem gv_k_X1_count_5 : GoodIn vs_k_X1_count (wsV RX1 23 RX1 yX1_countOf vs_k_X1_countOf_5) := goodIn_app (goodIn_sub (by decide +kernel) (by decide +kernel)) (goodIn_sub (fun _ h => List.mem_cons_of_mem _ (List.mem_append_right _ (List.mem_append_right _ (List.mem_append_right _ (List.mem_append_right _ (List.mem_append_right _ (List.mem_append_right _ (h)))))))) (by decide +kernel))
set_option maxHeartbeats 4000000 in
set_option maxRecDepth 100000 in
theorem k_X1_count (l : Launch) (D : va_G) (ty : Nat → ClassId) (td mi sz : Nat) (h0 : Nat) (h1 : Nat) : Met l yX1_count vs_k_X1_count { frames := 2, cells := 0, slots := 0, locals := 42 } (va_Pc [.ref h0] (wq_P D ty td mi [(h0, .inr (6, [.ref h1])), (h1, .inl (ty 1, 6, .inr (.inl (fun _ => 0))))] sz)) (va_Qi (fun (r : Int32) (u : va_W) => (r = 0 ∧ (u = [(h0, .inr (6, [.ref h1])), (h1, .inl (ty 1, 6, .inr (.inl (fun _ => 0))))]))) (wq_B D (va_A [(h0, .inr (6, [.ref h1])), (h1, .inl (ty 1, 6, .inr (.inl (fun _ => 0))))] sz)) (va_A [(h0, .inr (6, [.ref h1])), (h1, .inl (ty 1, 6, .inr (.inl (fun _ => 0))))] sz)) 0 0 (va_A [(h0, .inr (6, [.ref h1])), (h1, .inl (ty 1, 6, .inr (.inl (fun _ => 0))))] sz) := by
  refine Met.ofW (cc := cX1_count) (maxL := 3) (ret := (some .int)) (by decide) rfl ?_
  intro p e s m args below meth c s₁ B hml hv
  obtain ⟨rfl, hsz, hP, hK, hD0, hE⟩ := hv
  have hx := B.exec
  have hb := B.bytes
  have hr := B.returns
  have hts := atoms_spec (ws := vs_k_X1_count) B.pre
  have hown : s.vm.findClass RX1 = some m.cls := findClass_of_methodNamed B.named
  have hlocks := B.notSynchronized
  subst hsz
  have hD := hD0.self (sz := s.heap.size)
  generalize hAe : va_A [(h0, .inr (6, [.ref h1])), (h1, .inl (ty 1, 6, .inr (.inl (fun _ => 0))))] s.heap.size = A at hD hE ⊢
  have hA : ∀ q : Nat, s.heap.size ≤ q → A q := fun q h => by rw [← hAe]; exact Or.inr h
  have hS : va_S A s.heap s.heap [] := va_S.rf
  have hP : va_P D vwCl [(h0, .inr (6, [.ref h1])), (h1, .inl (ty 1, 6, .inr (.inl (fun _ => 0))))] s.heap := hP
  have hl := lv_entry ([.ref h0]) (n := 3) (Nat.le_of_ble_eq_true rfl)
  rw [lg_entry_eq]
  generalize (lg_sl ([.ref h0]) ++ List.replicate (3 - (lg_sl ([.ref h0])).length) Slot.unset).toArray = ls at hl ⊢
  have hl : lv_has ls 3 [(0, .ref h0)] := hl
  refine lv_iconst (v := 0) hx hb dX1_count_0 (by decide) ?_
  refine lv_istore_n (lv' := [(1, .int 0), (0, .ref h0)]) hx hb dX1_count_1 rfl hl (by decide) rfl (fun ls hl => ?_)
  refine lv_iconst (v := 0) hx hb dX1_count_2 (by decide) ?_
  refine lv_istore_n (lv' := [(2, .int 0), (1, .int 0), (0, .ref h0)]) hx hb dX1_count_3 rfl hl (by decide) rfl (fun ls hl => ?_)
  refine lv_iload_n hx hb dX1_count_4 rfl (lv_at hl 0 rfl) ?_
  refine lv_bipush (v := 6) hx hb dX1_count_5 (by decide) ?_
  refine lv_icmp_ge (tgt := 24) hx hb dX1_count_7 (by decide) (fun c0 => absurd c0 (by decide)) (fun _ => ?_)
  refine lv_iload_n hx hb dX1_count_10 rfl (lv_at hl 1 rfl) ?_
  refine lv_aload_n hx hb dX1_count_11 rfl (lv_at hl 2 rfl) ?_
  refine lv_iload_n hx hb dX1_count_12 rfl (lv_at hl 0 rfl) ?_
  refine wq_i (wc := [(h0, .inr (6, [.ref h1])), (h1, .inl (ty 1, 6, .inr (.inl (fun _ => 0))))]) (wr := []) (va_runV (As := [.int 0]) (rest := [.int 0]) ⟨hx, hb, hml, hown, hts⟩ (k_X1_countOf_0 l D ty td mi s.heap.size h0 h1) (cwV 1 hts gv_k_X1_count_0 rfl rfl rfl (by decide +kernel) ⟨(Nat.le_of_ble_eq_true rfl), (Nat.le_of_ble_eq_true rfl)⟩) (wq_preV hP hD hK hE hS hA [0, 1] rfl (by decide) 0 6 rfl rfl) rfl rfl hl.1 rfl (lv_room (Nat.le_of_ble_eq_true rfl)) dX1_count_13 ⟨(Nat.le_of_ble_eq_true rfl), (Nat.le_of_ble_eq_true rfl)⟩) hS hA hP hD [0, 1] [] rfl rfl (by decide) (by decide) (fun r u H locs hw hP hD hS => ?_)
  obtain ⟨rfl, rfl⟩ := hw
  have hP : va_P D vwCl [(h0, .inr (6, [.ref h1])), (h1, .inl (ty 1, 6, .inr (.inl (fun _ => 0))))] H := hP
  have hD : va_D A [(h0, .inr (6, [.ref h1])), (h1, .inl (ty 1, 6, .inr (.inl (fun _ => 0))))] := hD
  refine W.widen (k := 0) (n := 0) (Nat.le_of_ble_eq_true rfl) (Nat.le_of_ble_eq_true rfl) ?_
  refine lv_iadd hx hb dX1_count_16 ?_
  refine lv_topi (nm_r (e' := 0) (by decide) ?_)
  refine lv_istore_n (lv' := [(1, .int 0), (2, .int 0), (0, .ref h0)]) hx hb dX1_count_17 rfl hl (by decide) rfl (fun ls hl => ?_)
  refine lv_iinc (v := 1) (lv' := [(2, .int 1), (1, .int 0), (0, .ref h0)]) hx hb dX1_count_18 hl (k := 1) rfl (by decide) (by decide) rfl (fun ls hl => ?_)
  refine lv_goto (tgt := 4) hx hb dX1_count_21 (by decide) ?_
  refine lv_iload_n hx hb dX1_count_4 rfl (lv_at hl 0 rfl) ?_
  refine lv_bipush (v := 6) hx hb dX1_count_5 (by decide) ?_
  refine lv_icmp_ge (tgt := 24) hx hb dX1_count_7 (by decide) (fun c0 => absurd c0 (by decide)) (fun _ => ?_)
  refine lv_iload_n hx hb dX1_count_10 rfl (lv_at hl 1 rfl) ?_
  refine lv_aload_n hx hb dX1_count_11 rfl (lv_at hl 2 rfl) ?_
  refine lv_iload_n hx hb dX1_count_12 rfl (lv_at hl 0 rfl) ?_
  refine wq_i (wc := [(h0, .inr (6, [.ref h1])), (h1, .inl (ty 1, 6, .inr (.inl (fun _ => 0))))]) (wr := []) (va_runV (As := [.int 1]) (rest := [.int 0]) ⟨hx, hb, hml, hown, hts⟩ (k_X1_countOf_1 l D ty td mi H.size h0 h1) (cwV 1 hts gv_k_X1_count_1 rfl rfl rfl (by decide +kernel) ⟨(Nat.le_of_ble_eq_true rfl), (Nat.le_of_ble_eq_true rfl)⟩) (wq_preV hP hD hK hE hS hA [0, 1] rfl (by decide) 0 6 rfl rfl) rfl rfl hl.1 rfl (lv_room (Nat.le_of_ble_eq_true rfl)) dX1_count_13 ⟨(Nat.le_of_ble_eq_true rfl), (Nat.le_of_ble_eq_true rfl)⟩) hS hA hP hD [0, 1] [] rfl rfl (by decide) (by decide) (fun r u H locs hw hP hD hS => ?_)
  obtain ⟨rfl, rfl⟩ := hw
  have hP : va_P D vwCl [(h0, .inr (6, [.ref h1])), (h1, .inl (ty 1, 6, .inr (.inl (fun _ => 0))))] H := hP
  have hD : va_D A [(h0, .inr (6, [.ref h1])), (h1, .inl (ty 1, 6, .inr (.inl (fun _ => 0))))] := hD
  refine W.widen (k := 0) (n := 0) (Nat.le_of_ble_eq_true rfl) (Nat.le_of_ble_eq_true rfl) ?_
  refine lv_iadd hx hb dX1_count_16 ?_
  refine lv_topi (nm_r (e' := 0) (by decide) ?_)
  refine lv_istore_n (lv' := [(1, .int 0), (2, .int 1), (0, .ref h0)]) hx hb dX1_count_17 rfl hl (by decide) rfl (fun ls hl => ?_)
  refine lv_iinc (v := 2) (lv' := [(2, .int 2), (1, .int 0), (0, .ref h0)]) hx hb dX1_count_18 hl (k := 1) rfl (by decide) (by decide) rfl (fun ls hl => ?_)
  refine lv_goto (tgt := 4) hx hb dX1_count_21 (by decide) ?_
  refine lv_iload_n hx hb dX1_count_4 rfl (lv_at hl 0 rfl) ?_
  refine lv_bipush (v := 6) hx hb dX1_count_5 (by decide) ?_
  refine lv_icmp_ge (tgt := 24) hx hb dX1_count_7 (by decide) (fun c0 => absurd c0 (by decide)) (fun _ => ?_)
  refine lv_iload_n hx hb dX1_count_10 rfl (lv_at hl 1 rfl) ?_
  refine lv_aload_n hx hb dX1_count_11 rfl (lv_at hl 2 rfl) ?_
  refine lv_iload_n hx hb dX1_count_12 rfl (lv_at hl 0 rfl) ?_
  refine wq_i (wc := [(h0, .inr (6, [.ref h1])), (h1, .inl (ty 1, 6, .inr (.inl (fun _ => 0))))]) (wr := []) (va_runV (As := [.int 2]) (rest := [.int 0]) ⟨hx, hb, hml, hown, hts⟩ (k_X1_countOf_2 l D ty td mi H.size h0 h1) (cwV 1 hts gv_k_X1_count_2 rfl rfl rfl (by decide +kernel) ⟨(Nat.le_of_ble_eq_true rfl), (Nat.le_of_ble_eq_true rfl)⟩) (wq_preV hP hD hK hE hS hA [0, 1] rfl (by decide) 0 6 rfl rfl) rfl rfl hl.1 rfl (lv_room (Nat.le_of_ble_eq_true rfl)) dX1_count_13 ⟨(Nat.le_of_ble_eq_true rfl), (Nat.le_of_ble_eq_true rfl)⟩) hS hA hP hD [0, 1] [] rfl rfl (by decide) (by decide) (fun r u H locs hw hP hD hS => ?_)
  obtain ⟨rfl, rfl⟩ := hw
  have hP : va_P D vwCl [(h0, .inr (6, [.ref h1])), (h1, .inl (ty 1, 6, .inr (.inl (fun _ => 0))))] H := hP
  have hD : va_D A [(h0, .inr (6, [.ref h1])), (h1, .inl (ty 1, 6, .inr (.inl (fun _ => 0))))] := hD
  refine W.widen (k := 0) (n := 0) (Nat.le_of_ble_eq_true rfl) (Nat.le_of_ble_eq_true rfl) ?_
  refine lv_iadd hx hb dX1_count_16 ?_
  refine lv_topi (nm_r (e' := 0) (by decide) ?_)
  refine lv_istore_n (lv' := [(1, .int 0), (2, .int 2), (0, .ref h0)]) hx hb dX1_count_17 rfl hl (by decide) rfl (fun ls hl => ?_)
  refine lv_iinc (v := 3) (lv' := [(2, .int 3), (1, .int 0), (0, .ref h0)]) hx hb dX1_count_18 hl (k := 1) rfl (by decide) (by decide) rfl (fun ls hl => ?_)
  refine lv_goto (tgt := 4) hx hb dX1_count_21 (by decide) ?_
  refine lv_iload_n hx hb dX1_count_4 rfl (lv_at hl 0 rfl) ?_
  refine lv_bipush (v := 6) hx hb dX1_count_5 (by decide) ?_
  refine lv_icmp_ge (tgt := 24) hx hb dX1_count_7 (by decide) (fun c0 => absurd c0 (by decide)) (fun _ => ?_)
  refine lv_iload_n hx hb dX1_count_10 rfl (lv_at hl 1 rfl) ?_
  refine lv_aload_n hx hb dX1_count_11 rfl (lv_at hl 2 rfl) ?_
  refine lv_iload_n hx hb dX1_count_12 rfl (lv_at hl 0 rfl) ?_
  refine wq_i (wc := [(h0, .inr (6, [.ref h1])), (h1, .inl (ty 1, 6, .inr (.inl (fun _ => 0))))]) (wr := []) (va_runV (As := [.int 3]) (rest := [.int 0]) ⟨hx, hb, hml, hown, hts⟩ (k_X1_countOf_3 l D ty td mi H.size h0 h1) (cwV 1 hts gv_k_X1_count_3 rfl rfl rfl (by decide +kernel) ⟨(Nat.le_of_ble_eq_true rfl), (Nat.le_of_ble_eq_true rfl)⟩) (wq_preV hP hD hK hE hS hA [0, 1] rfl (by decide) 0 6 rfl rfl) rfl rfl hl.1 rfl (lv_room (Nat.le_of_ble_eq_true rfl)) dX1_count_13 ⟨(Nat.le_of_ble_eq_true rfl), (Nat.le_of_ble_eq_true rfl)⟩) hS hA hP hD [0, 1] [] rfl rfl (by decide) (by decide) (fun r u H locs hw hP hD hS => ?_)
  obtain ⟨rfl, rfl⟩ := hw
  have hP : va_P D vwCl [(h0, .inr (6, [.ref h1])), (h1, .inl (ty 1, 6, .inr (.inl (fun _ => 0))))] H := hP
  have hD : va_D A [(h0, .inr (6, [.ref h1])), (h1, .inl (ty 1, 6, .inr (.inl (fun _ => 0))))] := hD
  refine W.widen (k := 0) (n := 0) (Nat.le_of_ble_eq_true rfl) (Nat.le_of_ble_eq_true rfl) ?_
  refine lv_iadd hx hb dX1_count_16 ?_
  refine lv_topi (nm_r (e' := 0) (by decide) ?_)
  refine lv_istore_n (lv' := [(1, .int 0), (2, .int 3), (0, .ref h0)]) hx hb dX1_count_17 rfl hl (by decide) rfl (fun ls hl => ?_)
  refine lv_iinc (v := 4) (lv' := [(2, .int 4), (1, .int 0), (0, .ref h0)]) hx hb dX1_count_18 hl (k := 1) rfl (by decide) (by decide) rfl (fun ls hl => ?_)
  refine lv_goto (tgt := 4) hx hb dX1_count_21 (by decide) ?_
  refine lv_iload_n hx hb dX1_count_4 rfl (lv_at hl 0 rfl) ?_
  refine lv_bipush (v := 6) hx hb dX1_count_5 (by decide) ?_
  refine lv_icmp_ge (tgt := 24) hx hb dX1_count_7 (by decide) (fun c0 => absurd c0 (by decide)) (fun _ => ?_)
  refine lv_iload_n hx hb dX1_count_10 rfl (lv_at hl 1 rfl) ?_
  refine lv_aload_n hx hb dX1_count_11 rfl (lv_at hl 2 rfl) ?_
  refine lv_iload_n hx hb dX1_count_12 rfl (lv_at hl 0 rfl) ?_
  refine wq_i (wc := [(h0, .inr (6, [.ref h1])), (h1, .inl (ty 1, 6, .inr (.inl (fun _ => 0))))]) (wr := []) (va_runV (As := [.int 4]) (rest := [.int 0]) ⟨hx, hb, hml, hown, hts⟩ (k_X1_countOf_4 l D ty td mi H.size h0 h1) (cwV 1 hts gv_k_X1_count_4 rfl rfl rfl (by decide +kernel) ⟨(Nat.le_of_ble_eq_true rfl), (Nat.le_of_ble_eq_true rfl)⟩) (wq_preV hP hD hK hE hS hA [0, 1] rfl (by decide) 0 6 rfl rfl) rfl rfl hl.1 rfl (lv_room (Nat.le_of_ble_eq_true rfl)) dX1_count_13 ⟨(Nat.le_of_ble_eq_true rfl), (Nat.le_of_ble_eq_true rfl)⟩) hS hA hP hD [0, 1] [] rfl rfl (by decide) (by decide) (fun r u H locs hw hP hD hS => ?_)
  obtain ⟨rfl, rfl⟩ := hw
  have hP : va_P D vwCl [(h0, .inr (6, [.ref h1])), (h1, .inl (ty 1, 6, .inr (.inl (fun _ => 0))))] H := hP
  have hD : va_D A [(h0, .inr (6, [.ref h1])), (h1, .inl (ty 1, 6, .inr (.inl (fun _ => 0))))] := hD
  refine W.widen (k := 0) (n := 0) (Nat.le_of_ble_eq_true rfl) (Nat.le_of_ble_eq_true rfl) ?_
  refine lv_iadd hx hb dX1_count_16 ?_
  refine lv_topi (nm_r (e' := 0) (by decide) ?_)
  refine lv_istore_n (lv' := [(1, .int 0), (2, .int 4), (0, .ref h0)]) hx hb dX1_count_17 rfl hl (by decide) rfl (fun ls hl => ?_)
  refine lv_iinc (v := 5) (lv' := [(2, .int 5), (1, .int 0), (0, .ref h0)]) hx hb dX1_count_18 hl (k := 1) rfl (by decide) (by decide) rfl (fun ls hl => ?_)
  refine lv_goto (tgt := 4) hx hb dX1_count_21 (by decide) ?_
  refine lv_iload_n hx hb dX1_count_4 rfl (lv_at hl 0 rfl) ?_
  refine lv_bipush (v := 6) hx hb dX1_count_5 (by decide) ?_
  refine lv_icmp_ge (tgt := 24) hx hb dX1_count_7 (by decide) (fun c0 => absurd c0 (by decide)) (fun _ => ?_)
  refine lv_iload_n hx hb dX1_count_10 rfl (lv_at hl 1 rfl) ?_
  refine lv_aload_n hx hb dX1_count_11 rfl (lv_at hl 2 rfl) ?_
  refine lv_iload_n hx hb dX1_count_12 rfl (lv_at hl 0 rfl) ?_
  refine wq_i (wc := [(h0, .inr (6, [.ref h1])), (h1, .inl (ty 1, 6, .inr (.inl (fun _ => 0))))]) (wr := []) (va_runV (As := [.int 5]) (rest := [.int 0]) ⟨hx, hb, hml, hown, hts⟩ (k_X1_countOf_5 l D ty td mi H.size h0 h1) (cwV 1 hts gv_k_X1_count_5 rfl rfl rfl (by decide +kernel) ⟨(Nat.le_of_ble_eq_true rfl), (Nat.le_of_ble_eq_true rfl)⟩) (wq_preV hP hD hK hE hS hA [0, 1] rfl (by decide) 0 6 rfl rfl) rfl rfl hl.1 rfl (lv_room (Nat.le_of_ble_eq_true rfl)) dX1_count_13 ⟨(Nat.le_of_ble_eq_true rfl), (Nat.le_of_ble_eq_true rfl)⟩) hS hA hP hD [0, 1] [] rfl rfl (by decide) (by decide) (fun r u H locs hw hP hD hS => ?_)
  obtain ⟨rfl, rfl⟩ := hw
  have hP : va_P D vwCl [(h0, .inr (6, [.ref h1])), (h1, .inl (ty 1, 6, .inr (.inl (fun _ => 0))))] H := hP
  have hD : va_D A [(h0, .inr (6, [.ref h1])), (h1, .inl (ty 1, 6, .inr (.inl (fun _ => 0))))] := hD
  refine W.widen (k := 0) (n := 0) (Nat.le_of_ble_eq_true rfl) (Nat.le_of_ble_eq_true rfl) ?_
  refine lv_iadd hx hb dX1_count_16 ?_
  refine lv_topi (nm_r (e' := 0) (by decide) ?_)
  refine lv_istore_n (lv' := [(1, .int 0), (2, .int 5), (0, .ref h0)]) hx hb dX1_count_17 rfl hl (by decide) rfl (fun ls hl => ?_)
  refine lv_iinc (v := 6) (lv' := [(2, .int 6), (1, .int 0), (0, .ref h0)]) hx hb dX1_count_18 hl (k := 1) rfl (by decide) (by decide) rfl (fun ls hl => ?_)
  refine lv_goto (tgt := 4) hx hb dX1_count_21 (by decide) ?_
  refine lv_iload_n hx hb dX1_count_4 rfl (lv_at hl 0 rfl) ?_
  refine lv_bipush (v := 6) hx hb dX1_count_5 (by decide) ?_
  refine lv_icmp_ge (tgt := 24) hx hb dX1_count_7 (by decide) (fun _ => ?_) (fun c0 => absurd (by decide) c0)
  refine lv_iload_n hx hb dX1_count_24 rfl (lv_at hl 1 rfl) ?_
  have hP9 := hP.sub (ws' := [(h0, .inr (6, [.ref h1])), (h1, .inl (ty 1, 6, .inr (.inl (fun _ => 0))))]) [0, 1] rfl
  have hD9 := hD.sub (ws' := [(h0, .inr (6, [.ref h1])), (h1, .inl (ty 1, 6, .inr (.inl (fun _ => 0))))]) [0, 1] (by decide) rfl
  refine W.widen (k := 0) (n := 0) (Nat.le_of_ble_eq_true rfl) (Nat.le_of_ble_eq_true rfl) ?_
  exact W.iret (v := 0) hx hb hr (fun t ht hW => ⟨⟨0, [(h0, .inr (6, [.ref h1])), (h1, .inl (ty 1, 6, .inr (.inl (fun _ => 0))))], rfl, ⟨rfl, rfl⟩, wq_B.of ht hP9 hD9⟩, hS.F ht⟩) hS.2.2 dX1_count_25
def vs_k_X1_clear : List Cond := .code yX1_clear cX1_clear 2 none :: ([.fieldLink RX1 9 "AnswerFold$AtomSet" "words" "[J"] ++ (u_ws RX1 TX1 1))
theorem iv_k_X1_clear_X1 : ∀ w ∈ u_ws RX1 TX1 1, w ∈ vs_k_X1_clear := (fun _ h => List.mem_cons_of_mem _ (List.mem_append_right _ (h)))
set_option maxHeartbeats 4000000 in
set_option maxRecDepth 100000 in
theorem k_X1_clear (l : Launch) (D : va_G) (ty : Nat → ClassId) (td mi sz : Nat) (h0 : Nat) (h1 : Nat) : Met l yX1_clear vs_k_X1_clear { frames := 0, cells := 0, slots := 0, locals := 0 } (va_Pc [.ref h0] (wq_P D ty td mi [(h0, .inr (6, [.ref h1])), (h1, .inl (ty 1, 6, .inr (.inl (fun _ => 0))))] sz)) (va_Qv (fun u : va_W => ((u = [(h0, .inr (6, [.ref h1])), (h1, .inl (ty 1, 6, .inr (.inl (fun _ => 0))))]))) (wq_B D (va_A [(h0, .inr (6, [.ref h1])), (h1, .inl (ty 1, 6, .inr (.inl (fun _ => 0))))] sz)) (va_A [(h0, .inr (6, [.ref h1])), (h1, .inl (ty 1, 6, .inr (.inl (fun _ => 0))))] sz)) 0 0 (va_A [(h0, .inr (6, [.ref h1])), (h1, .inl (ty 1, 6, .inr (.inl (fun _ => 0))))] sz) := by
  refine Met.ofW (cc := cX1_clear) (maxL := 2) (ret := none) (by decide) rfl ?_
  intro p e s m args below meth c s₁ B hml hv
  obtain ⟨rfl, hsz, hP, hK, hD0, hE⟩ := hv
  have hx := B.exec
  have hb := B.bytes
  have hr := B.returns
  have hts := atoms_spec (ws := vs_k_X1_clear) B.pre
  have hown : s.vm.findClass RX1 = some m.cls := findClass_of_methodNamed B.named
  have hlocks := B.notSynchronized
  subst hsz
  have hD := hD0.self (sz := s.heap.size)
  generalize hAe : va_A [(h0, .inr (6, [.ref h1])), (h1, .inl (ty 1, 6, .inr (.inl (fun _ => 0))))] s.heap.size = A at hD hE ⊢
  have hA : ∀ q : Nat, s.heap.size ≤ q → A q := fun q h => by rw [← hAe]; exact Or.inr h
  have hS : va_S A s.heap s.heap [] := va_S.rf
  have hP : va_P D vwCl [(h0, .inr (6, [.ref h1])), (h1, .inl (ty 1, 6, .inr (.inl (fun _ => 0))))] s.heap := hP
  have hl := lv_entry ([.ref h0]) (n := 2) (Nat.le_of_ble_eq_true rfl)
  rw [lg_entry_eq]
  generalize (lg_sl ([.ref h0]) ++ List.replicate (2 - (lg_sl ([.ref h0])).length) Slot.unset).toArray = ls at hl ⊢
  have hl : lv_has ls 2 [(0, .ref h0)] := hl
  refine lv_iconst (v := 0) hx hb dX1_clear_0 (by decide) ?_
  refine lv_istore_n (lv' := [(1, .int 0), (0, .ref h0)]) hx hb dX1_clear_1 rfl hl (by decide) rfl (fun ls hl => ?_)
  refine lv_iload_n hx hb dX1_clear_2 rfl (lv_at hl 0 rfl) ?_
  refine lv_bipush (v := 6) hx hb dX1_clear_3 (by decide) ?_
  refine lv_icmp_ge (tgt := 21) hx hb dX1_clear_5 (by decide) (fun c0 => absurd c0 (by decide)) (fun _ => ?_)
  refine lv_aload_n hx hb dX1_clear_8 rfl (lv_at hl 1 rfl) ?_
  refine va_get (D := D) (ci := 6) (v := .ref h1) (C := RX1) (T := TX1) (N := 1) hx hb hts iv_k_X1_clear_X1 hown hK hP 0 rfl rfl 0 (by decide) (hts (.fieldLink RX1 9 "AnswerFold$AtomSet" "words" "[J") (by decide +kernel)) (fun _ h9 => h9) rfl dX1_clear_9 ?_
  refine lv_iload_n hx hb dX1_clear_12 rfl (lv_at hl 0 rfl) ?_
  refine lv_lconst (v := 0) hx hb dX1_clear_13 (by decide) ?_
  refine va_last (D := D) hx hb hK hP hD hS 1 1 rfl rfl (vp_in_iff.mpr (by decide)) dX1_clear_14 (fun H locs hP hD hS => ?_)
  rw [wq_updL0] at hP hD
  have hP : va_P D vwCl [(h0, .inr (6, [.ref h1])), (h1, .inl (ty 1, 6, .inr (.inl (fun _ => 0))))] H := hP
  have hD : va_D A [(h0, .inr (6, [.ref h1])), (h1, .inl (ty 1, 6, .inr (.inl (fun _ => 0))))] := hD
  refine lv_iinc (v := 1) (lv' := [(1, .int 1), (0, .ref h0)]) hx hb dX1_clear_15 hl (k := 0) rfl (by decide) (by decide) rfl (fun ls hl => ?_)
  refine lv_goto (tgt := 2) hx hb dX1_clear_18 (by decide) ?_
  refine lv_iload_n hx hb dX1_clear_2 rfl (lv_at hl 0 rfl) ?_
  refine lv_bipush (v := 6) hx hb dX1_clear_3 (by decide) ?_
  refine lv_icmp_ge (tgt := 21) hx hb dX1_clear_5 (by decide) (fun c0 => absurd c0 (by decide)) (fun _ => ?_)
  refine lv_aload_n hx hb dX1_clear_8 rfl (lv_at hl 1 rfl) ?_
  refine va_get (D := D) (ci := 6) (v := .ref h1) (C := RX1) (T := TX1) (N := 1) hx hb hts iv_k_X1_clear_X1 hown hK hP 0 rfl rfl 0 (by decide) (hts (.fieldLink RX1 9 "AnswerFold$AtomSet" "words" "[J") (by decide +kernel)) (fun _ h9 => h9) rfl dX1_clear_9 ?_
  refine lv_iload_n hx hb dX1_clear_12 rfl (lv_at hl 0 rfl) ?_
  refine lv_lconst (v := 0) hx hb dX1_clear_13 (by decide) ?_
  refine va_last (D := D) hx hb hK hP hD hS 1 1 rfl rfl (vp_in_iff.mpr (by decide)) dX1_clear_14 (fun H locs hP hD hS => ?_)
  rw [wq_updL0] at hP hD
  have hP : va_P D vwCl [(h0, .inr (6, [.ref h1])), (h1, .inl (ty 1, 6, .inr (.inl (fun _ => 0))))] H := hP
  have hD : va_D A [(h0, .inr (6, [.ref h1])), (h1, .inl (ty 1, 6, .inr (.inl (fun _ => 0))))] := hD
  refine lv_iinc (v := 2) (lv' := [(1, .int 2), (0, .ref h0)]) hx hb dX1_clear_15 hl (k := 0) rfl (by decide) (by decide) rfl (fun ls hl => ?_)
  refine lv_goto (tgt := 2) hx hb dX1_clear_18 (by decide) ?_
  refine lv_iload_n hx hb dX1_clear_2 rfl (lv_at hl 0 rfl) ?_
  refine lv_bipush (v := 6) hx hb dX1_clear_3 (by decide) ?_
  refine lv_icmp_ge (tgt := 21) hx hb dX1_clear_5 (by decide) (fun c0 => absurd c0 (by decide)) (fun _ => ?_)
  refine lv_aload_n hx hb dX1_clear_8 rfl (lv_at hl 1 rfl) ?_
  refine va_get (D := D) (ci := 6) (v := .ref h1) (C := RX1) (T := TX1) (N := 1) hx hb hts iv_k_X1_clear_X1 hown hK hP 0 rfl rfl 0 (by decide) (hts (.fieldLink RX1 9 "AnswerFold$AtomSet" "words" "[J") (by decide +kernel)) (fun _ h9 => h9) rfl dX1_clear_9 ?_
  refine lv_iload_n hx hb dX1_clear_12 rfl (lv_at hl 0 rfl) ?_
  refine lv_lconst (v := 0) hx hb dX1_clear_13 (by decide) ?_
  refine va_last (D := D) hx hb hK hP hD hS 1 1 rfl rfl (vp_in_iff.mpr (by decide)) dX1_clear_14 (fun H locs hP hD hS => ?_)
  rw [wq_updL0] at hP hD
  have hP : va_P D vwCl [(h0, .inr (6, [.ref h1])), (h1, .inl (ty 1, 6, .inr (.inl (fun _ => 0))))] H := hP
  have hD : va_D A [(h0, .inr (6, [.ref h1])), (h1, .inl (ty 1, 6, .inr (.inl (fun _ => 0))))] := hD
  refine lv_iinc (v := 3) (lv' := [(1, .int 3), (0, .ref h0)]) hx hb dX1_clear_15 hl (k := 0) rfl (by decide) (by decide) rfl (fun ls hl => ?_)
  refine lv_goto (tgt := 2) hx hb dX1_clear_18 (by decide) ?_
  refine lv_iload_n hx hb dX1_clear_2 rfl (lv_at hl 0 rfl) ?_
  refine lv_bipush (v := 6) hx hb dX1_clear_3 (by decide) ?_
  refine lv_icmp_ge (tgt := 21) hx hb dX1_clear_5 (by decide) (fun c0 => absurd c0 (by decide)) (fun _ => ?_)
  refine lv_aload_n hx hb dX1_clear_8 rfl (lv_at hl 1 rfl) ?_
  refine va_get (D := D) (ci := 6) (v := .ref h1) (C := RX1) (T := TX1) (N := 1) hx hb hts iv_k_X1_clear_X1 hown hK hP 0 rfl rfl 0 (by decide) (hts (.fieldLink RX1 9 "AnswerFold$AtomSet" "words" "[J") (by decide +kernel)) (fun _ h9 => h9) rfl dX1_clear_9 ?_
  refine lv_iload_n hx hb dX1_clear_12 rfl (lv_at hl 0 rfl) ?_
  refine lv_lconst (v := 0) hx hb dX1_clear_13 (by decide) ?_
  refine va_last (D := D) hx hb hK hP hD hS 1 1 rfl rfl (vp_in_iff.mpr (by decide)) dX1_clear_14 (fun H locs hP hD hS => ?_)
  rw [wq_updL0] at hP hD
  have hP : va_P D vwCl [(h0, .inr (6, [.ref h1])), (h1, .inl (ty 1, 6, .inr (.inl (fun _ => 0))))] H := hP
  have hD : va_D A [(h0, .inr (6, [.ref h1])), (h1, .inl (ty 1, 6, .inr (.inl (fun _ => 0))))] := hD
  refine lv_iinc (v := 4) (lv' := [(1, .int 4), (0, .ref h0)]) hx hb dX1_clear_15 hl (k := 0) rfl (by decide) (by decide) rfl (fun ls hl => ?_)
  refine lv_goto (tgt := 2) hx hb dX1_clear_18 (by decide) ?_
  refine lv_iload_n hx hb dX1_clear_2 rfl (lv_at hl 0 rfl) ?_
  refine lv_bipush (v := 6) hx hb dX1_clear_3 (by decide) ?_
  refine lv_icmp_ge (tgt := 21) hx hb dX1_clear_5 (by decide) (fun c0 => absurd c0 (by decide)) (fun _ => ?_)
  refine lv_aload_n hx hb dX1_clear_8 rfl (lv_at hl 1 rfl) ?_
  refine va_get (D := D) (ci := 6) (v := .ref h1) (C := RX1) (T := TX1) (N := 1) hx hb hts iv_k_X1_clear_X1 hown hK hP 0 rfl rfl 0 (by decide) (hts (.fieldLink RX1 9 "AnswerFold$AtomSet" "words" "[J") (by decide +kernel)) (fun _ h9 => h9) rfl dX1_clear_9 ?_
  refine lv_iload_n hx hb dX1_clear_12 rfl (lv_at hl 0 rfl) ?_
  refine lv_lconst (v := 0) hx hb dX1_clear_13 (by decide) ?_
  refine va_last (D := D) hx hb hK hP hD hS 1 1 rfl rfl (vp_in_iff.mpr (by decide)) dX1_clear_14 (fun H locs hP hD hS => ?_)
  rw [wq_updL0] at hP hD
  have hP : va_P D vwCl [(h0, .inr (6, [.ref h1])), (h1, .inl (ty 1, 6, .inr (.inl (fun _ => 0))))] H := hP
  have hD : va_D A [(h0, .inr (6, [.ref h1])), (h1, .inl (ty 1, 6, .inr (.inl (fun _ => 0))))] := hD
  refine lv_iinc (v := 5) (lv' := [(1, .int 5), (0, .ref h0)]) hx hb dX1_clear_15 hl (k := 0) rfl (by decide) (by decide) rfl (fun ls hl => ?_)
  refine lv_goto (tgt := 2) hx hb dX1_clear_18 (by decide) ?_
  refine lv_iload_n hx hb dX1_clear_2 rfl (lv_at hl 0 rfl) ?_
  refine lv_bipush (v := 6) hx hb dX1_clear_3 (by decide) ?_
  refine lv_icmp_ge (tgt := 21) hx hb dX1_clear_5 (by decide) (fun c0 => absurd c0 (by decide)) (fun _ => ?_)
  refine lv_aload_n hx hb dX1_clear_8 rfl (lv_at hl 1 rfl) ?_
  refine va_get (D := D) (ci := 6) (v := .ref h1) (C := RX1) (T := TX1) (N := 1) hx hb hts iv_k_X1_clear_X1 hown hK hP 0 rfl rfl 0 (by decide) (hts (.fieldLink RX1 9 "AnswerFold$AtomSet" "words" "[J") (by decide +kernel)) (fun _ h9 => h9) rfl dX1_clear_9 ?_
  refine lv_iload_n hx hb dX1_clear_12 rfl (lv_at hl 0 rfl) ?_
  refine lv_lconst (v := 0) hx hb dX1_clear_13 (by decide) ?_
  refine va_last (D := D) hx hb hK hP hD hS 1 1 rfl rfl (vp_in_iff.mpr (by decide)) dX1_clear_14 (fun H locs hP hD hS => ?_)
  rw [wq_updL0] at hP hD
  have hP : va_P D vwCl [(h0, .inr (6, [.ref h1])), (h1, .inl (ty 1, 6, .inr (.inl (fun _ => 0))))] H := hP
  have hD : va_D A [(h0, .inr (6, [.ref h1])), (h1, .inl (ty 1, 6, .inr (.inl (fun _ => 0))))] := hD
  refine lv_iinc (v := 6) (lv' := [(1, .int 6), (0, .ref h0)]) hx hb dX1_clear_15 hl (k := 0) rfl (by decide) (by decide) rfl (fun ls hl => ?_)
  refine lv_goto (tgt := 2) hx hb dX1_clear_18 (by decide) ?_
  refine lv_iload_n hx hb dX1_clear_2 rfl (lv_at hl 0 rfl) ?_
  refine lv_bipush (v := 6) hx hb dX1_clear_3 (by decide) ?_
  refine lv_icmp_ge (tgt := 21) hx hb dX1_clear_5 (by decide) (fun _ => ?_) (fun c0 => absurd (by decide) c0)
  have hP9 := hP.sub (ws' := [(h0, .inr (6, [.ref h1])), (h1, .inl (ty 1, 6, .inr (.inl (fun _ => 0))))]) [0, 1] rfl
  have hD9 := hD.sub (ws' := [(h0, .inr (6, [.ref h1])), (h1, .inl (ty 1, 6, .inr (.inl (fun _ => 0))))]) [0, 1] (by decide) rfl
  refine W.widen (k := 0) (n := 0) (Nat.le_of_ble_eq_true rfl) (Nat.le_of_ble_eq_true rfl) ?_
  exact W.vret hx hb hr (fun t ht hW => ⟨⟨[(h0, .inr (6, [.ref h1])), (h1, .inl (ty 1, 6, .inr (.inl (fun _ => 0))))], rfl, rfl, wq_B.of ht hP9 hD9⟩, hS.F ht⟩) hS.2.2 dX1_clear_21
def vs_k_X1_contains : List Cond := .code yX1_contains cX1_contains 2 (some .boolean) :: ([.fieldLink RX1 9 "AnswerFold$AtomSet" "words" "[J"] ++ (u_ws RX1 TX1 1))
theorem iv_k_X1_contains_X1 : ∀ w ∈ u_ws RX1 TX1 1, w ∈ vs_k_X1_contains := (fun _ h => List.mem_cons_of_mem _ (List.mem_append_right _ (h)))
set_option maxHeartbeats 4000000 in
set_option maxRecDepth 100000 in
theorem k_X1_contains (l : Launch) (D : va_G) (ty : Nat → ClassId) (td mi sz : Nat) (h0 : Nat) (h1 : Nat) (k1 : Int32) : Met l yX1_contains vs_k_X1_contains { frames := 0, cells := 0, slots := 0, locals := 0 } (va_Pc [.ref h0, .int k1] (wq_P D ty td mi [(h0, .inr (6, [.ref h1])), (h1, .inl (ty 1, 6, .inr (.inl (fun _ => 0))))] sz)) (va_Qi (fun (r : Int32) (u : va_W) => (r = 0 ∧ (u = [(h0, .inr (6, [.ref h1])), (h1, .inl (ty 1, 6, .inr (.inl (fun _ => 0))))]))) (wq_B D (va_A [(h0, .inr (6, [.ref h1])), (h1, .inl (ty 1, 6, .inr (.inl (fun _ => 0))))] sz)) (va_A [(h0, .inr (6, [.ref h1])), (h1, .inl (ty 1, 6, .inr (.inl (fun _ => 0))))] sz)) 0 0 (va_A [(h0, .inr (6, [.ref h1])), (h1, .inl (ty 1, 6, .inr (.inl (fun _ => 0))))] sz) := by
  refine Met.ofW (cc := cX1_contains) (maxL := 2) (ret := (some .boolean)) (by decide) rfl ?_
  intro p e s m args below meth c s₁ B hml hv
  obtain ⟨rfl, hsz, hP, hK, hD0, hE⟩ := hv
  have hx := B.exec
  have hb := B.bytes
  have hr := B.returns
  have hts := atoms_spec (ws := vs_k_X1_contains) B.pre
  have hown : s.vm.findClass RX1 = some m.cls := findClass_of_methodNamed B.named
  have hlocks := B.notSynchronized
  subst hsz
  have hD := hD0.self (sz := s.heap.size)
  generalize hAe : va_A [(h0, .inr (6, [.ref h1])), (h1, .inl (ty 1, 6, .inr (.inl (fun _ => 0))))] s.heap.size = A at hD hE ⊢
  have hA : ∀ q : Nat, s.heap.size ≤ q → A q := fun q h => by rw [← hAe]; exact Or.inr h
  have hS : va_S A s.heap s.heap [] := va_S.rf
  have hP : va_P D vwCl [(h0, .inr (6, [.ref h1])), (h1, .inl (ty 1, 6, .inr (.inl (fun _ => 0))))] s.heap := hP
  have hl := lv_entry ([.ref h0, .int k1]) (n := 2) (Nat.le_of_ble_eq_true rfl)
  rw [lg_entry_eq]
  generalize (lg_sl ([.ref h0, .int k1]) ++ List.replicate (2 - (lg_sl ([.ref h0, .int k1])).length) Slot.unset).toArray = ls at hl ⊢
  have hl : lv_has ls 2 [(0, .ref h0), (1, .int k1)] := hl
  refine lv_iload_n hx hb dX1_contains_0 rfl (lv_at hl 1 rfl) ?_
  refine lv_if_lt (tgt := 36) hx hb dX1_contains_1 (by decide) (fun c_1 => ?_) (fun c_1 => ?_)
  · refine lv_iconst (v := 0) hx hb dX1_contains_36 (by decide) ?_
    have hP9 := hP.sub (ws' := [(h0, .inr (6, [.ref h1])), (h1, .inl (ty 1, 6, .inr (.inl (fun _ => 0))))]) [0, 1] rfl
    have hD9 := hD.sub (ws' := [(h0, .inr (6, [.ref h1])), (h1, .inl (ty 1, 6, .inr (.inl (fun _ => 0))))]) [0, 1] (by decide) rfl
    refine W.widen (k := 0) (n := 0) (Nat.le_of_ble_eq_true rfl) (Nat.le_of_ble_eq_true rfl) ?_
    exact W.zret (v := 0) hx hb hr rfl (fun t ht hW => ⟨⟨0, [(h0, .inr (6, [.ref h1])), (h1, .inl (ty 1, 6, .inr (.inl (fun _ => 0))))], rfl, ⟨rfl, rfl⟩, wq_B.of ht hP9 hD9⟩, hS.F ht⟩) hS.2.2 dX1_contains_37
  · refine lv_iload_n hx hb dX1_contains_4 rfl (lv_at hl 1 rfl) ?_
    refine lv_sipush (v := 384) hx hb dX1_contains_5 (by decide) ?_
    refine lv_icmp_ge (tgt := 36) hx hb dX1_contains_8 (by decide) (fun c_2 => ?_) (fun c_2 => ?_)
    · refine lv_iconst (v := 0) hx hb dX1_contains_36 (by decide) ?_
      have hP9 := hP.sub (ws' := [(h0, .inr (6, [.ref h1])), (h1, .inl (ty 1, 6, .inr (.inl (fun _ => 0))))]) [0, 1] rfl
      have hD9 := hD.sub (ws' := [(h0, .inr (6, [.ref h1])), (h1, .inl (ty 1, 6, .inr (.inl (fun _ => 0))))]) [0, 1] (by decide) rfl
      refine W.widen (k := 0) (n := 0) (Nat.le_of_ble_eq_true rfl) (Nat.le_of_ble_eq_true rfl) ?_
      exact W.zret (v := 0) hx hb hr rfl (fun t ht hW => ⟨⟨0, [(h0, .inr (6, [.ref h1])), (h1, .inl (ty 1, 6, .inr (.inl (fun _ => 0))))], rfl, ⟨rfl, rfl⟩, wq_B.of ht hP9 hD9⟩, hS.F ht⟩) hS.2.2 dX1_contains_37
    · refine lv_aload_n hx hb dX1_contains_11 rfl (lv_at hl 0 rfl) ?_
      refine va_get (D := D) (ci := 6) (v := .ref h1) (C := RX1) (T := TX1) (N := 1) hx hb hts iv_k_X1_contains_X1 hown hK hP 0 rfl rfl 0 (by decide) (hts (.fieldLink RX1 9 "AnswerFold$AtomSet" "words" "[J") (by decide +kernel)) (fun _ h9 => h9) rfl dX1_contains_12 ?_
      refine lv_iload_n hx hb dX1_contains_15 rfl (lv_at hl 1 rfl) ?_
      refine lv_bipush (v := 64) hx hb dX1_contains_16 (by decide) ?_
      refine lv_idiv hx hb dX1_contains_18 (by decide) ?_
      refine va_lald (D := D) hx hb hK hP 1 1 rfl rfl (wq_div64 c_1 c_2) dX1_contains_19 ?_
      refine lv_topl (nm_r (e' := 0) (by first | rfl | decide | exact wq_sel hlt (by decide)) ?_)
      refine lv_iload_n hx hb dX1_contains_20 rfl (lv_at hl 1 rfl) ?_
      refine lv_bipush (v := 64) hx hb dX1_contains_21 (by decide) ?_
      refine lv_irem hx hb dX1_contains_23 (by decide) ?_
      refine lv_lushr (v := 0) hx hb dX1_contains_24 (wq_sh0 _) ?_
      refine lv_lconst (v := 1) hx hb dX1_contains_25 (by decide) ?_
      refine lv_land hx hb dX1_contains_26 ?_
      refine lv_topl (nm_r (e' := 0) (by decide) ?_)
      refine lv_lconst (v := 0) hx hb dX1_contains_27 (by decide) ?_
      refine W.lcmp hx hb dX1_contains_28 ?_
      refine lv_topi (nm_r (e' := 0) (by decide) ?_)
      refine lv_if_eq (tgt := 36) hx hb dX1_contains_29 (by decide) (fun _ => ?_) (fun c0 => absurd (by decide) c0)
      refine lv_iconst (v := 0) hx hb dX1_contains_36 (by decide) ?_
      have hP9 := hP.sub (ws' := [(h0, .inr (6, [.ref h1])), (h1, .inl (ty 1, 6, .inr (.inl (fun _ => 0))))]) [0, 1] rfl
      have hD9 := hD.sub (ws' := [(h0, .inr (6, [.ref h1])), (h1, .inl (ty 1, 6, .inr (.inl (fun _ => 0))))]) [0, 1] (by decide) rfl
      refine W.widen (k := 0) (n := 0) (Nat.le_of_ble_eq_true rfl) (Nat.le_of_ble_eq_true rfl) ?_
      exact W.zret (v := 0) hx hb hr rfl (fun t ht hW => ⟨⟨0, [(h0, .inr (6, [.ref h1])), (h1, .inl (ty 1, 6, .inr (.inl (fun _ => 0))))], rfl, ⟨rfl, rfl⟩, wq_B.of ht hP9 hD9⟩, hS.F ht⟩) hS.2.2 dX1_contains_37
def vs_k_X10_dropAssumptions : List Cond := .code yX10_dropAssumptions cX10_dropAssumptions 2 (some .int) :: ([.fieldLink RX10 46 "AnswerFold" "assumedIn" "LAnswerFold$AtomSet;", .methodLink RX10 245 yX1_count, .instanceMethod yX1_count, .selects RX1 yX1_count yX1_count, .initialized RX1, .fieldLink RX10 50 "AnswerFold" "assumedOut" "LAnswerFold$AtomSet;", .fieldLink RX10 56 "AnswerFold" "answers" "LAnswerFold$Answers;", .methodLink RX10 248 yX1_clear, .instanceMethod yX1_clear, .selects RX1 yX1_clear yX1_clear] ++ (u_ws RX10 TX10 7 ++ (vs_k_X1_count ++ (u_ws RX0 TX0 4 ++ (vs_k_X1_clear)))))
theorem iv_k_X10_dropAssumptions_X0 : ∀ w ∈ u_ws RX0 TX0 4, w ∈ vs_k_X10_dropAssumptions := (fun _ h => List.mem_cons_of_mem _ (List.mem_append_right _ (List.mem_append_right _ (List.mem_append_right _ (List.mem_append_left _ h)))))
theorem iv_k_X10_dropAssumptions_X10 : ∀ w ∈ u_ws RX10 TX10 7, w ∈ vs_k_X10_dropAssumptions := (fun _ h => List.mem_cons_of_mem _ (List.mem_append_right _ (List.mem_append_left _ h)))
set_option maxRecDepth 20000 in
theorem gv_k_X10_dropAssumptions_0 : GoodIn vs_k_X10_dropAssumptions (wsV RX10 245 RX1 yX1_count vs_k_X1_count) := goodIn_app (goodIn_sub (by decide +kernel) (by decide +kernel)) (goodIn_sub (fun _ h => List.mem_cons_of_mem _ (List.mem_append_right _ (List.mem_append_right _ (List.mem_append_left _ h)))) (by decide +kernel))
set_option maxRecDepth 20000 in
theorem gv_k_X10_dropAssumptions_1 : GoodIn vs_k_X10_dropAssumptions (wsV RX10 245 RX1 yX1_count vs_k_X1_count) := goodIn_app (goodIn_sub (by decide +kernel) (by decide +kernel)) (goodIn_sub (fun _ h => List.mem_cons_of_mem _ (List.mem_append_right _ (List.mem_append_right _ (List.mem_append_left _ h)))) (by decide +kernel))
set_option maxRecDepth 20000 in
theorem gv_k_X10_dropAssumptions_2 : GoodIn vs_k_X10_dropAssumptions (wsV RX10 248 RX1 yX1_clear vs_k_X1_clear) := goodIn_app (goodIn_sub (by decide +kernel) (by decide +kernel)) (goodIn_sub (fun _ h => List.mem_cons_of_mem _ (List.mem_append_right _ (List.mem_append_right _ (List.mem_append_right _ (List.mem_append_right _ (h)))))) (by decide +kernel))
set_option maxRecDepth 20000 in
theorem gv_k_X10_dropAssumptions_3 : GoodIn vs_k_X10_dropAssumptions (wsV RX10 248 RX1 yX1_clear vs_k_X1_clear) := goodIn_app (goodIn_sub (by decide +kernel) (by decide +kernel)) (goodIn_sub (fun _ h => List.mem_cons_of_mem _ (List.mem_append_right _ (List.mem_append_right _ (List.mem_append_right _ (List.mem_append_right _ (h)))))) (by decide +kernel))
set_option maxHeartbeats 4000000 in
set_option maxRecDepth 100000 in
theorem k_X10_dropAssumptions (l : Launch) (D : va_G) (ty : Nat → ClassId) (td mi sz : Nat) (x0 : Nat) (x1 : Nat) (x8 : Nat) (x20 : Nat) (x39 : Nat) (x41 : Nat) (x43 : Nat) (x45 : Nat) (x42 : Nat) (x44 : Nat) (x46 : Nat) (x47 : Nat) : Met l yX10_dropAssumptions vs_k_X10_dropAssumptions { frames := 3, cells := 0, slots := 0, locals := 64 } (va_Pc [.ref x0] (wq_P D ty td mi [(x0, .inr (15, [.ref x1, .ref x8, .ref x20, .ref x39, .ref x41, .ref x43, .ref x45])), (x41, .inr (6, [.ref x42])), (x42, .inl (ty 1, 6, .inr (.inl (fun _ => 0)))), (x43, .inr (6, [.ref x44])), (x44, .inl (ty 1, 6, .inr (.inl (fun _ => 0)))), (x45, .inr (5, [.ref x46, .ref x47, .int 0, .int 0]))] sz)) (va_Qi (fun (r : Int32) (u : va_W) => (r = 0 ∧ (u = []))) (wq_B D (va_A [(x0, .inr (15, [.ref x1, .ref x8, .ref x20, .ref x39, .ref x41, .ref x43, .ref x45])), (x41, .inr (6, [.ref x42])), (x42, .inl (ty 1, 6, .inr (.inl (fun _ => 0)))), (x43, .inr (6, [.ref x44])), (x44, .inl (ty 1, 6, .inr (.inl (fun _ => 0)))), (x45, .inr (5, [.ref x46, .ref x47, .int 0, .int 0]))] sz)) (va_A [(x0, .inr (15, [.ref x1, .ref x8, .ref x20, .ref x39, .ref x41, .ref x43, .ref x45])), (x41, .inr (6, [.ref x42])), (x42, .inl (ty 1, 6, .inr (.inl (fun _ => 0)))), (x43, .inr (6, [.ref x44])), (x44, .inl (ty 1, 6, .inr (.inl (fun _ => 0)))), (x45, .inr (5, [.ref x46, .ref x47, .int 0, .int 0]))] sz)) 0 0 (va_A [(x0, .inr (15, [.ref x1, .ref x8, .ref x20, .ref x39, .ref x41, .ref x43, .ref x45])), (x41, .inr (6, [.ref x42])), (x42, .inl (ty 1, 6, .inr (.inl (fun _ => 0)))), (x43, .inr (6, [.ref x44])), (x44, .inl (ty 1, 6, .inr (.inl (fun _ => 0)))), (x45, .inr (5, [.ref x46, .ref x47, .int 0, .int 0]))] sz) := by
  refine Met.ofW (cc := cX10_dropAssumptions) (maxL := 2) (ret := (some .int)) (by decide) rfl ?_
  intro p e s m args below meth c s₁ B hml hv
  obtain ⟨rfl, hsz, hP, hK, hD0, hE⟩ := hv
  have hx := B.exec
  have hb := B.bytes
  have hr := B.returns
  have hts := atoms_spec (ws := vs_k_X10_dropAssumptions) B.pre
  have hown : s.vm.findClass RX10 = some m.cls := findClass_of_methodNamed B.named
  have hlocks := B.notSynchronized
  subst hsz
  have hD := hD0.self (sz := s.heap.size)
  generalize hAe : va_A [(x0, .inr (15, [.ref x1, .ref x8, .ref x20, .ref x39, .ref x41, .ref x43, .ref x45])), (x41, .inr (6, [.ref x42])), (x42, .inl (ty 1, 6, .inr (.inl (fun _ => 0)))), (x43, .inr (6, [.ref x44])), (x44, .inl (ty 1, 6, .inr (.inl (fun _ => 0)))), (x45, .inr (5, [.ref x46, .ref x47, .int 0, .int 0]))] s.heap.size = A at hD hE ⊢
  have hA : ∀ q : Nat, s.heap.size ≤ q → A q := fun q h => by rw [← hAe]; exact Or.inr h
  have hS : va_S A s.heap s.heap [] := va_S.rf
  have hP : va_P D vwCl [(x0, .inr (15, [.ref x1, .ref x8, .ref x20, .ref x39, .ref x41, .ref x43, .ref x45])), (x41, .inr (6, [.ref x42])), (x42, .inl (ty 1, 6, .inr (.inl (fun _ => 0)))), (x43, .inr (6, [.ref x44])), (x44, .inl (ty 1, 6, .inr (.inl (fun _ => 0)))), (x45, .inr (5, [.ref x46, .ref x47, .int 0, .int 0]))] s.heap := hP
  have hl := lv_entry ([.ref x0]) (n := 2) (Nat.le_of_ble_eq_true rfl)
  rw [lg_entry_eq]
  generalize (lg_sl ([.ref x0]) ++ List.replicate (2 - (lg_sl ([.ref x0])).length) Slot.unset).toArray = ls at hl ⊢
  have hl : lv_has ls 2 [(0, .ref x0)] := hl
  refine lv_aload_n hx hb dX10_dropAssumptions_0 rfl (lv_at hl 0 rfl) ?_
  refine va_get (D := D) (ci := 15) (v := .ref x41) (C := RX10) (T := TX10) (N := 7) hx hb hts iv_k_X10_dropAssumptions_X10 hown hK hP 0 rfl rfl 4 (by decide) (hts (.fieldLink RX10 46 "AnswerFold" "assumedIn" "LAnswerFold$AtomSet;") (by decide +kernel)) (fun _ h9 => h9) rfl dX10_dropAssumptions_1 ?_
  refine wq_i (wc := [(x41, .inr (6, [.ref x42])), (x42, .inl (ty 1, 6, .inr (.inl (fun _ => 0))))]) (wr := [(x0, .inr (15, [.ref x1, .ref x8, .ref x20, .ref x39, .ref x41, .ref x43, .ref x45])), (x43, .inr (6, [.ref x44])), (x44, .inl (ty 1, 6, .inr (.inl (fun _ => 0)))), (x45, .inr (5, [.ref x46, .ref x47, .int 0, .int 0]))]) (va_runV (As := []) (rest := []) ⟨hx, hb, hml, hown, hts⟩ (k_X1_count l D ty td mi s.heap.size x41 x42) (cwV 0 hts gv_k_X10_dropAssumptions_0 rfl rfl rfl (by decide +kernel) ⟨(Nat.le_of_ble_eq_true rfl), (Nat.le_of_ble_eq_true rfl)⟩) (wq_preV hP hD hK hE hS hA [1, 2] rfl (by decide) 1 6 rfl rfl) rfl rfl hl.1 rfl (lv_room (Nat.le_of_ble_eq_true rfl)) dX10_dropAssumptions_4 ⟨(Nat.le_of_ble_eq_true rfl), (Nat.le_of_ble_eq_true rfl)⟩) hS hA hP hD [1, 2] [0, 3, 4, 5] rfl rfl (by decide) (by decide) (fun r u H locs hw hP hD hS => ?_)
  obtain ⟨rfl, rfl⟩ := hw
  have hP : va_P D vwCl [(x0, .inr (15, [.ref x1, .ref x8, .ref x20, .ref x39, .ref x41, .ref x43, .ref x45])), (x43, .inr (6, [.ref x44])), (x44, .inl (ty 1, 6, .inr (.inl (fun _ => 0)))), (x45, .inr (5, [.ref x46, .ref x47, .int 0, .int 0])), (x41, .inr (6, [.ref x42])), (x42, .inl (ty 1, 6, .inr (.inl (fun _ => 0))))] H := hP
  have hD : va_D A [(x0, .inr (15, [.ref x1, .ref x8, .ref x20, .ref x39, .ref x41, .ref x43, .ref x45])), (x43, .inr (6, [.ref x44])), (x44, .inl (ty 1, 6, .inr (.inl (fun _ => 0)))), (x45, .inr (5, [.ref x46, .ref x47, .int 0, .int 0])), (x41, .inr (6, [.ref x42])), (x42, .inl (ty 1, 6, .inr (.inl (fun _ => 0))))] := hD
  refine W.widen (k := 0) (n := 0) (Nat.le_of_ble_eq_true rfl) (Nat.le_of_ble_eq_true rfl) ?_
  refine lv_aload_n hx hb dX10_dropAssumptions_7 rfl (lv_at hl 0 rfl) ?_
  refine va_get (D := D) (ci := 15) (v := .ref x43) (C := RX10) (T := TX10) (N := 7) hx hb hts iv_k_X10_dropAssumptions_X10 hown hK hP 0 rfl rfl 5 (by decide) (hts (.fieldLink RX10 50 "AnswerFold" "assumedOut" "LAnswerFold$AtomSet;") (by decide +kernel)) (fun _ h9 => h9) rfl dX10_dropAssumptions_8 ?_
  refine wq_i (wc := [(x43, .inr (6, [.ref x44])), (x44, .inl (ty 1, 6, .inr (.inl (fun _ => 0))))]) (wr := [(x0, .inr (15, [.ref x1, .ref x8, .ref x20, .ref x39, .ref x41, .ref x43, .ref x45])), (x45, .inr (5, [.ref x46, .ref x47, .int 0, .int 0])), (x41, .inr (6, [.ref x42])), (x42, .inl (ty 1, 6, .inr (.inl (fun _ => 0))))]) (va_runV (As := []) (rest := [.int 0]) ⟨hx, hb, hml, hown, hts⟩ (k_X1_count l D ty td mi H.size x43 x44) (cwV 0 hts gv_k_X10_dropAssumptions_1 rfl rfl rfl (by decide +kernel) ⟨(Nat.le_of_ble_eq_true rfl), (Nat.le_of_ble_eq_true rfl)⟩) (wq_preV hP hD hK hE hS hA [1, 2] rfl (by decide) 1 6 rfl rfl) rfl rfl hl.1 rfl (lv_room (Nat.le_of_ble_eq_true rfl)) dX10_dropAssumptions_11 ⟨(Nat.le_of_ble_eq_true rfl), (Nat.le_of_ble_eq_true rfl)⟩) hS hA hP hD [1, 2] [0, 3, 4, 5] rfl rfl (by decide) (by decide) (fun r u H locs hw hP hD hS => ?_)
  obtain ⟨rfl, rfl⟩ := hw
  have hP : va_P D vwCl [(x0, .inr (15, [.ref x1, .ref x8, .ref x20, .ref x39, .ref x41, .ref x43, .ref x45])), (x45, .inr (5, [.ref x46, .ref x47, .int 0, .int 0])), (x41, .inr (6, [.ref x42])), (x42, .inl (ty 1, 6, .inr (.inl (fun _ => 0)))), (x43, .inr (6, [.ref x44])), (x44, .inl (ty 1, 6, .inr (.inl (fun _ => 0))))] H := hP
  have hD : va_D A [(x0, .inr (15, [.ref x1, .ref x8, .ref x20, .ref x39, .ref x41, .ref x43, .ref x45])), (x45, .inr (5, [.ref x46, .ref x47, .int 0, .int 0])), (x41, .inr (6, [.ref x42])), (x42, .inl (ty 1, 6, .inr (.inl (fun _ => 0)))), (x43, .inr (6, [.ref x44])), (x44, .inl (ty 1, 6, .inr (.inl (fun _ => 0))))] := hD
  refine W.widen (k := 0) (n := 0) (Nat.le_of_ble_eq_true rfl) (Nat.le_of_ble_eq_true rfl) ?_
  refine lv_iadd hx hb dX10_dropAssumptions_14 ?_
  refine lv_topi (nm_r (e' := 0) (by decide) ?_)
  refine lv_istore_n (lv' := [(1, .int 0), (0, .ref x0)]) hx hb dX10_dropAssumptions_15 rfl hl (by decide) rfl (fun ls hl => ?_)
  refine lv_aload_n hx hb dX10_dropAssumptions_16 rfl (lv_at hl 1 rfl) ?_
  refine va_get (D := D) (ci := 15) (v := .ref x45) (C := RX10) (T := TX10) (N := 7) hx hb hts iv_k_X10_dropAssumptions_X10 hown hK hP 0 rfl rfl 6 (by decide) (hts (.fieldLink RX10 56 "AnswerFold" "answers" "LAnswerFold$Answers;") (by decide +kernel)) (fun _ h9 => h9) rfl dX10_dropAssumptions_17 ?_
  refine lv_iconst (v := 0) hx hb dX10_dropAssumptions_20 (by decide) ?_
  refine va_putN (D := D) (ci := 5) (v := .int 0) (ty := tyX0 3) (C := RX0) (T := TX0) (N := 4) hx hb hts iv_k_X10_dropAssumptions_X0 tyX0 tyX0_ok nmX0 hown hK hP hD hS 1 rfl rfl 3 (by decide) (hE.at (.fieldLinkNest "AnswerFold" 235 "AnswerFold$Answers" "isKept" "Z" "AnswerFold") (by decide +kernel)) (fun _ h9 => h9) rfl (by decide +kernel) rfl rfl (Nat.le_of_ble_eq_true rfl) dX10_dropAssumptions_21 (fun H locs hP hD hS => ?_)
  have hP : va_P D vwCl [(x0, .inr (15, [.ref x1, .ref x8, .ref x20, .ref x39, .ref x41, .ref x43, .ref x45])), (x45, .inr (5, [.ref x46, .ref x47, .int 0, .int 0])), (x41, .inr (6, [.ref x42])), (x42, .inl (ty 1, 6, .inr (.inl (fun _ => 0)))), (x43, .inr (6, [.ref x44])), (x44, .inl (ty 1, 6, .inr (.inl (fun _ => 0))))] H := hP
  have hD : va_D A [(x0, .inr (15, [.ref x1, .ref x8, .ref x20, .ref x39, .ref x41, .ref x43, .ref x45])), (x45, .inr (5, [.ref x46, .ref x47, .int 0, .int 0])), (x41, .inr (6, [.ref x42])), (x42, .inl (ty 1, 6, .inr (.inl (fun _ => 0)))), (x43, .inr (6, [.ref x44])), (x44, .inl (ty 1, 6, .inr (.inl (fun _ => 0))))] := hD
  refine lv_aload_n hx hb dX10_dropAssumptions_24 rfl (lv_at hl 1 rfl) ?_
  refine va_get (D := D) (ci := 15) (v := .ref x41) (C := RX10) (T := TX10) (N := 7) hx hb hts iv_k_X10_dropAssumptions_X10 hown hK hP 0 rfl rfl 4 (by decide) (hts (.fieldLink RX10 46 "AnswerFold" "assumedIn" "LAnswerFold$AtomSet;") (by decide +kernel)) (fun _ h9 => h9) rfl dX10_dropAssumptions_25 ?_
  refine wq_v (wc := [(x41, .inr (6, [.ref x42])), (x42, .inl (ty 1, 6, .inr (.inl (fun _ => 0))))]) (wr := [(x0, .inr (15, [.ref x1, .ref x8, .ref x20, .ref x39, .ref x41, .ref x43, .ref x45])), (x45, .inr (5, [.ref x46, .ref x47, .int 0, .int 0])), (x43, .inr (6, [.ref x44])), (x44, .inl (ty 1, 6, .inr (.inl (fun _ => 0))))]) (va_runV (As := []) (rest := []) ⟨hx, hb, hml, hown, hts⟩ (k_X1_clear l D ty td mi H.size x41 x42) (cwV 0 hts gv_k_X10_dropAssumptions_2 rfl rfl rfl (by decide +kernel) ⟨(Nat.le_of_ble_eq_true rfl), (Nat.le_of_ble_eq_true rfl)⟩) (wq_preV hP hD hK hE hS hA [2, 3] rfl (by decide) 2 6 rfl rfl) rfl rfl hl.1 rfl (lv_room (Nat.le_of_ble_eq_true rfl)) dX10_dropAssumptions_28 ⟨(Nat.le_of_ble_eq_true rfl), (Nat.le_of_ble_eq_true rfl)⟩) hS hA hP hD [2, 3] [0, 1, 4, 5] rfl rfl (by decide) (by decide) (fun u H locs hw hP hD hS => ?_)
  obtain rfl := hw
  have hP : va_P D vwCl [(x0, .inr (15, [.ref x1, .ref x8, .ref x20, .ref x39, .ref x41, .ref x43, .ref x45])), (x45, .inr (5, [.ref x46, .ref x47, .int 0, .int 0])), (x43, .inr (6, [.ref x44])), (x44, .inl (ty 1, 6, .inr (.inl (fun _ => 0)))), (x41, .inr (6, [.ref x42])), (x42, .inl (ty 1, 6, .inr (.inl (fun _ => 0))))] H := hP
  have hD : va_D A [(x0, .inr (15, [.ref x1, .ref x8, .ref x20, .ref x39, .ref x41, .ref x43, .ref x45])), (x45, .inr (5, [.ref x46, .ref x47, .int 0, .int 0])), (x43, .inr (6, [.ref x44])), (x44, .inl (ty 1, 6, .inr (.inl (fun _ => 0)))), (x41, .inr (6, [.ref x42])), (x42, .inl (ty 1, 6, .inr (.inl (fun _ => 0))))] := hD
  refine W.widen (k := 0) (n := 0) (Nat.le_of_ble_eq_true rfl) (Nat.le_of_ble_eq_true rfl) ?_
  refine lv_aload_n hx hb dX10_dropAssumptions_31 rfl (lv_at hl 1 rfl) ?_
  refine va_get (D := D) (ci := 15) (v := .ref x43) (C := RX10) (T := TX10) (N := 7) hx hb hts iv_k_X10_dropAssumptions_X10 hown hK hP 0 rfl rfl 5 (by decide) (hts (.fieldLink RX10 50 "AnswerFold" "assumedOut" "LAnswerFold$AtomSet;") (by decide +kernel)) (fun _ h9 => h9) rfl dX10_dropAssumptions_32 ?_
  refine wq_v (wc := [(x43, .inr (6, [.ref x44])), (x44, .inl (ty 1, 6, .inr (.inl (fun _ => 0))))]) (wr := [(x0, .inr (15, [.ref x1, .ref x8, .ref x20, .ref x39, .ref x41, .ref x43, .ref x45])), (x45, .inr (5, [.ref x46, .ref x47, .int 0, .int 0])), (x41, .inr (6, [.ref x42])), (x42, .inl (ty 1, 6, .inr (.inl (fun _ => 0))))]) (va_runV (As := []) (rest := []) ⟨hx, hb, hml, hown, hts⟩ (k_X1_clear l D ty td mi H.size x43 x44) (cwV 0 hts gv_k_X10_dropAssumptions_3 rfl rfl rfl (by decide +kernel) ⟨(Nat.le_of_ble_eq_true rfl), (Nat.le_of_ble_eq_true rfl)⟩) (wq_preV hP hD hK hE hS hA [2, 3] rfl (by decide) 2 6 rfl rfl) rfl rfl hl.1 rfl (lv_room (Nat.le_of_ble_eq_true rfl)) dX10_dropAssumptions_35 ⟨(Nat.le_of_ble_eq_true rfl), (Nat.le_of_ble_eq_true rfl)⟩) hS hA hP hD [2, 3] [0, 1, 4, 5] rfl rfl (by decide) (by decide) (fun u H locs hw hP hD hS => ?_)
  obtain rfl := hw
  have hP : va_P D vwCl [(x0, .inr (15, [.ref x1, .ref x8, .ref x20, .ref x39, .ref x41, .ref x43, .ref x45])), (x45, .inr (5, [.ref x46, .ref x47, .int 0, .int 0])), (x41, .inr (6, [.ref x42])), (x42, .inl (ty 1, 6, .inr (.inl (fun _ => 0)))), (x43, .inr (6, [.ref x44])), (x44, .inl (ty 1, 6, .inr (.inl (fun _ => 0))))] H := hP
  have hD : va_D A [(x0, .inr (15, [.ref x1, .ref x8, .ref x20, .ref x39, .ref x41, .ref x43, .ref x45])), (x45, .inr (5, [.ref x46, .ref x47, .int 0, .int 0])), (x41, .inr (6, [.ref x42])), (x42, .inl (ty 1, 6, .inr (.inl (fun _ => 0)))), (x43, .inr (6, [.ref x44])), (x44, .inl (ty 1, 6, .inr (.inl (fun _ => 0))))] := hD
  refine W.widen (k := 0) (n := 0) (Nat.le_of_ble_eq_true rfl) (Nat.le_of_ble_eq_true rfl) ?_
  refine lv_iload_n hx hb dX10_dropAssumptions_38 rfl (lv_at hl 0 rfl) ?_
  have hP9 := hP.sub (ws' := []) [] rfl
  have hD9 := hD.sub (ws' := []) [] (by decide) rfl
  refine W.widen (k := 0) (n := 0) (Nat.le_of_ble_eq_true rfl) (Nat.le_of_ble_eq_true rfl) ?_
  exact W.iret (v := 0) hx hb hr (fun t ht hW => ⟨⟨0, [], rfl, ⟨rfl, rfl⟩, wq_B.of ht hP9 hD9⟩, hS.F ht⟩) hS.2.2 dX10_dropAssumptions_39
