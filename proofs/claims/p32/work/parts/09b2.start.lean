/-! the world's first facts, out of the tables' words and what is given of the start -/
set_option maxRecDepth 100000 in
theorem ws_nc : ∀ q ∈ wq_nc, Cond.not (.castable q.1 q.2) ∈ flatC (Cond.and given_1 narrow_1) := by decide +kernel
theorem wq_arr {s : State} {args : Array Value} {ty : FieldType} (h : (Cond.arrayClass ty).before args s = true) (hp : ∀ C, ty ≠ .object C) : ∃ cA, ArrOfT s cA ty ∧ va_RA s cA ty := by
  obtain ⟨c, k, comp, h1, h2, h3⟩ := Cond.arrayClass_spec (show (Cond.arrayClass ty).holds args s none s [] = true from h)
  refine ⟨c, fun n z => ⟨fun k h => (by cases h), k, h2, comp, h3⟩, ?_⟩
  cases ty with
  | object C => exact absurd rfl (hp C)
  | _ => exact h1
theorem wq_arrO {s : State} {args : Array Value} {C : String} (h : (Cond.arrayOver (.object C)).before args s = true) : ∃ cA, ArrOfT s cA (.object C) ∧ va_RA s cA (.object C) := by
  obtain ⟨comp, c, k, h1, -, h3, h4, h5⟩ := Cond.arrayOver_spec (show (Cond.arrayOver (.object C)).holds args s none s [] = true from h)
  exact ⟨c, fun n z => ⟨fun k h => (by cases h), k, h3, comp, h4⟩, k, comp, h3, h4, h1, h5⟩
theorem wq_arrI {s : State} {args : Array Value} (h : (Cond.arrayOver (.array .int)).before args s = true) : ∃ cA, ArrOfT s cA (.array .int) ∧ va_RA s cA (.array .int) := by
  obtain ⟨comp, c, k, h1, h2, h3, h4, h5⟩ := arrayOverA_spec h
  exact ⟨c, fun n z => ⟨fun k h => (by cases h), k, h3, comp, h4⟩, h5⟩
set_option maxHeartbeats 4000000 in
set_option maxRecDepth 100000 in
theorem wq_start {s : State} {args : Array Value} (hts : ∀ w ∈ lw_tbl, w.before args s = true) (hgv : (Cond.and given_1 narrow_1).before args s = true) : ∃ (D : va_G) (ty : Nat → ClassId) (td mi : Nat), va_K D vwCl (wq_ty ty) s ∧ wq_E (fun q => s.heap.size ≤ q) td mi s s.heap := by
  have hfl := flat_of_before _ hgv
  have hA : ∀ a : Nat, a < s.heap.size → ¬ (fun q => s.heap.size ≤ q) a := fun a h => Nat.not_le.mpr h
  have hcl : ∀ q ∈ vwCl, ∃ (cC : ClassId) (iS : Nat → Nat), u_Kn s q.1 q.2.1 q.2.2 cC iS := fun q hq => by
    obtain ⟨h1, n, -, h2⟩ := ws_cl q hq
    exact u_known hts h1 (hts _ h2)
  have hcl2 : ∀ c : Nat, ∃ (x : ClassId × (Nat → Nat)), ∀ q, vwCl[c]? = some q → u_Kn s q.1 q.2.1 q.2.2 x.1 x.2 := fun c => by
    cases hc : vwCl[c]? with
    | none => exact ⟨(0, fun _ => 0), fun q h => by cases h⟩
    | some q =>
      obtain ⟨cC, iS, h⟩ := hcl q (List.mem_of_getElem? hc)
      exact ⟨(cC, iS), fun q' h' => by cases h'; exact h⟩
  obtain ⟨c0, a0, r0⟩ := wq_arr (ty := .int) (hts (.arrayClass .int) (by decide +kernel)) (fun _ h => by cases h)
  obtain ⟨c1, a1, r1⟩ := wq_arr (ty := .long) (hts (.arrayClass .long) (by decide +kernel)) (fun _ h => by cases h)
  obtain ⟨c2, a2, r2⟩ := wq_arr (ty := .char) (hts (.arrayClass .char) (by decide +kernel)) (fun _ h => by cases h)
  obtain ⟨c3, a3, r3⟩ := wq_arr (ty := .byte) (hts (.arrayClass .byte) (by decide +kernel)) (fun _ h => by cases h)
  obtain ⟨c4, a4, r4⟩ := wq_arrO (hts (.arrayOver (.object "AnswerFold$Rule")) (by decide +kernel))
  obtain ⟨c5, a5, r5⟩ := wq_arrO (hts (.arrayOver (.object "AnswerFold$Literal")) (by decide +kernel))
  obtain ⟨c6, a6, r6⟩ := wq_arrI (hts (.arrayOver (.array .int)) (by decide +kernel))
  refine ⟨(fun c => (Classical.choose (hcl2 c)).1, fun c => (Classical.choose (hcl2 c)).2), fun k => if k = 0 then c0 else if k = 1 then c1 else if k = 2 then c2 else if k = 3 then c3 else if k = 4 then c4 else if k = 5 then c5 else c6, 0, 0, ⟨fun c q hq => Classical.choose_spec (hcl2 c) q hq, ?_⟩, ⟨rfl, rfl⟩, fun w hw => va_Nw.of (wq_tw_ok w hw).1 (hts w (ws_tw w hw)), fun C hC => va_AO.of (hts _ (ws_ao C hC)), fun q hq => va_Nw.of rfl (hts _ (ws_ca q hq)), fun q hq => va_Nc.of (hfl _ (ws_nc q hq)), fun x hx => va_Nw.of rfl (hts _ (ws_de x hx)), fun q hq => ?_, ?_, ?_⟩
  · intro k q hk
    match k, hk with
    | 0, hk => cases hk; exact ⟨a0, r0⟩
    | 1, hk => cases hk; exact ⟨a1, r1⟩
    | 2, hk => cases hk; exact ⟨a2, r2⟩
    | 3, hk => cases hk; exact ⟨a3, r3⟩
    | 4, hk => cases hk; exact ⟨a4, r4⟩
    | 5, hk => cases hk; exact ⟨a5, r5⟩
    | 6, hk => cases hk; exact ⟨a6, r6⟩
    | k + 7, hk => simp [wq_ty] at hk
  · obtain ⟨cC, kC, hfc, -⟩ := Cond.instantiable_spec (hts _ ws_cls)
    have hw := hts _ (ws_str q hq)
    obtain ⟨-, -, -, a, -, -, -, -, -, he⟩ := Cond.stringRef_spec hfc (show (Cond.stringRef "AnswerFold" q.1 q.2).holds args s none s [] = true from hw)
    exact ⟨a, vk_R.of hw he⟩
  · exact vx_Zqof (hts _ (by decide +kernel)) (hts _ (by decide +kernel)) (hfl _ (by decide +kernel)) hA
  · exact vx_Zqof (hts _ (by decide +kernel)) (hts _ (by decide +kernel)) (hfl _ (by decide +kernel)) hA
