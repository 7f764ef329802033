/-! a callee's cells put back where they were: the world keeps its order, new cells at the end -/
def wsetL : List Nat → va_W → va_W → va_W
  | [] => fun ws u => ws ++ u
  | i :: is => fun ws u => match u with
    | [] => ws
    | c :: u => wsetL is (ws.set i c) u
def wset (ws : va_W) (is : List Nat) (u : va_W) : va_W := wsetL is ws u
theorem wq_inH {D : va_G} {cl : List vw_C} {ws : va_W} {H : Heap} {k : Nat} {q : Nat × va_E} (h : va_P D cl ws H) (hq : ws[k]? = some q) : q.1 < H.size := by
  have h1 := h k q hq
  unfold va_at at h1
  cases he : q.2 with
  | inl a =>
    rw [he] at h1
    exact (Array.getElem?_eq_some_iff.mp h1).1
  | inr o =>
    rw [he] at h1
    obtain ⟨r, -, cell, h2, -⟩ := h1
    exact (Array.getElem?_eq_some_iff.mp h2).1
theorem dN {A : Nat → Prop} {ws : va_W} : va_D A ws ↔ (ws.map Prod.fst).Nodup ∧ ∀ q ∈ ws, A q.1 := by
  constructor
  · intro h
    refine ⟨List.nodup_iff_pairwise_ne.mpr (List.pairwise_iff_getElem.mpr fun i j hi hj hij he => ?_), fun q hq => ?_⟩
    · rw [List.length_map] at hi hj
      rw [List.getElem_map, List.getElem_map] at he
      have := h.1 i j _ _ (List.getElem?_eq_getElem hi) (List.getElem?_eq_getElem hj) he
      omega
    · obtain ⟨k, hk⟩ := List.getElem?_of_mem hq
      exact h.2 k q hk
  · intro h
    have h1 := List.pairwise_iff_getElem.mp (List.nodup_iff_pairwise_ne.mp h.1)
    have key : ∀ (i j : Nat) (p q : Nat × va_E), ws[i]? = some p → ws[j]? = some q → p.1 = q.1 → ¬ i < j := fun i j p q hi hj e hlt => by
      obtain ⟨li, hi⟩ := List.getElem?_eq_some_iff.mp hi
      obtain ⟨lj, hj⟩ := List.getElem?_eq_some_iff.mp hj
      refine h1 i j (by rw [List.length_map]; exact li) (by rw [List.length_map]; exact lj) hlt ?_
      rw [List.getElem_map, List.getElem_map, hi, hj]
      exact e
    refine ⟨fun i j p q hi hj e => ?_, fun k q hk => h.2 q (List.mem_of_getElem? hk)⟩
    have a := key i j p q hi hj e
    have b := key j i q p hj hi e.symm
    omega
theorem wset_mem : ∀ (is : List Nat) (ws u : va_W) (q : Nat × va_E), is.length ≤ u.length → q ∈ wset ws is u → q ∈ u ∨ ∃ k, k ∉ is ∧ ws[k]? = some q
  | [], ws, u, q, _, h => by
    rcases List.mem_append.mp (show q ∈ ws ++ u from h) with h | h
    · obtain ⟨k, hk⟩ := List.getElem?_of_mem h
      exact Or.inr ⟨k, List.not_mem_nil, hk⟩
    · exact Or.inl h
  | i :: is, ws, [], q, hl, _ => absurd hl (by simp)
  | i :: is, ws, c :: u, q, hl, h => by
    rcases wset_mem is (ws.set i c) u q (by simpa using hl) h with h1 | ⟨k, h1, h2⟩
    · exact Or.inl (List.mem_cons_of_mem _ h1)
    · by_cases hk : i = k
      · subst hk
        rw [List.getElem?_set] at h2
        simp only [if_true] at h2
        split at h2
        · exact Or.inl (by rw [← Option.some.inj h2]; exact List.mem_cons_self)
        · cases h2
      · rw [List.getElem?_set_ne hk] at h2
        exact Or.inr ⟨k, fun h3 => (List.mem_cons.mp h3).elim (fun e => hk e.symm) h1, h2⟩
theorem wset_fst : ∀ (is : List Nat) (ws u : va_W), is.length ≤ u.length → (∀ (j i : Nat) (c : Nat × va_E), is[j]? = some i → u[j]? = some c → (ws.map Prod.fst)[i]? = some c.1) → (wset ws is u).map Prod.fst = ws.map Prod.fst ++ (u.drop is.length).map Prod.fst
  | [], ws, u, _, _ => by
    show (ws ++ u).map Prod.fst = _
    rw [List.map_append]
    rfl
  | i :: is, ws, [], hl, _ => absurd hl (by simp)
  | i :: is, ws, c :: u, hl, hf => by
    have hs : (ws.set i c).map Prod.fst = ws.map Prod.fst := by
      apply List.ext_getElem?
      intro k
      rw [List.getElem?_map, List.getElem?_map]
      by_cases hk : i = k
      · subst hk
        have h0 := hf 0 i c rfl rfl
        rw [List.getElem?_map] at h0
        cases hw : ws[i]? with
        | none => rw [hw] at h0; cases h0
        | some z =>
          rw [hw] at h0
          have hi := (List.getElem?_eq_some_iff.mp hw).1
          rw [List.getElem?_set_self hi]
          exact h0.symm
      · rw [List.getElem?_set_ne hk]
    show (wset (ws.set i c) is u).map Prod.fst = _
    rw [wset_fst is (ws.set i c) u (by simpa using hl) (fun j i' c' h1 h2 => by rw [hs]; exact hf (j + 1) i' c' h1 h2), hs]
    rfl
theorem wset_len {isC : List Nat} {wc u ws : va_W} (hC : isC.map (fun i => ws[i]?) = wc.map some) (hf : (u.take isC.length).map Prod.fst = wc.map Prod.fst) : isC.length ≤ u.length := by
  have h1 := congrArg List.length hC
  have h2 := congrArg List.length hf
  simp only [List.length_map, List.length_take] at h1 h2
  omega
theorem wset_at {isC : List Nat} {wc u ws : va_W} (hC : isC.map (fun i => ws[i]?) = wc.map some) (hf : (u.take isC.length).map Prod.fst = wc.map Prod.fst) (j i : Nat) (c : Nat × va_E) (hj : isC[j]? = some i) (hu : u[j]? = some c) : ∃ z : Nat × va_E, wc[j]? = some z ∧ ws[i]? = some z ∧ z.1 = c.1 := by
  have h1 : (isC.map (fun i => ws[i]?))[j]? = some ws[i]? := by rw [List.getElem?_map, hj]; rfl
  rw [hC, List.getElem?_map] at h1
  cases hw : wc[j]? with
  | none => rw [hw] at h1; cases h1
  | some z =>
    rw [hw] at h1
    refine ⟨z, rfl, (Option.some.inj h1).symm, ?_⟩
    have hl := (List.getElem?_eq_some_iff.mp hj).1
    have h2 : ((u.take isC.length).map Prod.fst)[j]? = some c.1 := by rw [List.getElem?_map, List.getElem?_take_of_lt hl, hu]; rfl
    rw [hf, List.getElem?_map, hw] at h2
    exact Option.some.inj h2
theorem va_joinW {A0 : Nat → Prop} {D : va_G} {cl : List vw_C} {ws wc u : va_W} {H H1 : Heap} (hP : va_P D cl ws H) (hD : va_D A0 ws) (isC : List Nat) (hC : isC.map (fun i => ws[i]?) = wc.map some) (hf : (u.take isC.length).map Prod.fst = wc.map Prod.fst) {B : Nat → Prop} (hB1 : ∀ (j : Nat) (z : Nat × va_E), wc[j]? = some z → B z.1) (hB2 : ∀ q, H.size ≤ q → B q) (hB3 : ∀ (k : Nat) (q : Nat × va_E), k ∉ isC → ws[k]? = some q → ¬ B q.1) (hB4 : ∀ q, B q → (∃ (j : Nat) (z : Nat × va_E), wc[j]? = some z ∧ z.1 = q) ∨ H.size ≤ q ∨ ∀ (k : Nat) (z : Nat × va_E), ws[k]? = some z → z.1 ≠ q)
    (hk : ∀ q : Nat, q < H.size → ¬ B q → H1[q]? = H[q]?) (hF : ∀ q, B q → A0 q) (hP1 : va_P D cl u H1) (hD1 : va_D B u) : va_P D cl (wset ws isC u) H1 ∧ va_D A0 (wset ws isC u) := by
  have hl := wset_len hC hf
  have hfst := wset_fst isC ws u hl (fun j i c h1 h2 => by
    obtain ⟨z, -, h3, h4⟩ := wset_at hC hf j i c h1 h2
    rw [List.getElem?_map, h3, ← h4]
    rfl)
  refine ⟨fun k q hq => ?_, dN.mpr ⟨?_, fun q hq => ?_⟩⟩
  · rcases wset_mem isC ws u q hl (List.mem_of_getElem? hq) with h | ⟨k', h1, h2⟩
    · obtain ⟨j, hj⟩ := List.getElem?_of_mem h
      exact hP1 j q hj
    · exact (hP k' q h2).kept (hk q.1 (wq_inH hP h2) (hB3 k' q h1 h2))
  · rw [hfst, List.nodup_append]
    refine ⟨(dN.mp hD).1, List.Nodup.sublist ((List.drop_sublist isC.length u).map Prod.fst) (dN.mp hD1).1, fun a ha b hb e => ?_⟩
    subst e
    obtain ⟨p, hp, rfl⟩ := List.mem_map.mp ha
    obtain ⟨r, hr, hre⟩ := List.mem_map.mp hb
    obtain ⟨k, hk1⟩ := List.getElem?_of_mem hp
    obtain ⟨m, hm⟩ := List.getElem?_of_mem hr
    rw [List.getElem?_drop] at hm
    rcases hB4 r.1 (hD1.2 _ _ hm) with ⟨j, z, hz, hzr⟩ | h | h
    · have hj : j < isC.length := by
        have h1 := congrArg List.length hC
        simp only [List.length_map] at h1
        rw [h1]
        exact (List.getElem?_eq_some_iff.mp hz).1
      have hju : j < u.length := Nat.lt_of_lt_of_le hj hl
      obtain ⟨z', h1, -, h3⟩ := wset_at hC hf j isC[j] u[j] (List.getElem?_eq_getElem hj) (List.getElem?_eq_getElem hju)
      rw [hz] at h1
      cases h1
      have := hD1.1 j (isC.length + m) u[j] r (List.getElem?_eq_getElem hju) hm (by rw [← h3, hzr])
      omega
    · have := wq_inH hP hk1
      rw [hre] at h
      omega
    · exact h k p hk1 hre.symm
  · rcases wset_mem isC ws u q hl hq with h | ⟨k', -, h2⟩
    · obtain ⟨j, hj⟩ := List.getElem?_of_mem h
      exact hF _ (hD1.2 j q hj)
    · exact hD.2 k' q h2
theorem wq_nb {A0 : Nat → Prop} {D : va_G} {cl : List vw_C} {ws wc : va_W} {H : Heap} (hP : va_P D cl ws H) (hD : va_D A0 ws) (isC : List Nat) (hC : isC.map (fun i => ws[i]?) = wc.map some) (k : Nat) (q : Nat × va_E) (hk : k ∉ isC) (hq : ws[k]? = some q) : ¬ va_A wc H.size q.1 := by
  intro h
  rcases h with ⟨k2, e, h⟩ | h
  · obtain ⟨j, h3, h4⟩ := va_in_of isC hC h
    have hij := hD.1 k j q (q.1, e) hq h4 rfl
    subst hij
    exact hk (List.mem_of_getElem? h3)
  · have := wq_inH hP hq
    omega
theorem wq_jW {A0 : Nat → Prop} {D : va_G} {cl : List vw_C} {ws wc u : va_W} {H H1 : Heap} (hP : va_P D cl ws H) (hD : va_D A0 ws) (isC : List Nat) (hC : isC.map (fun i => ws[i]?) = wc.map some) (hf : (u.take isC.length).map Prod.fst = wc.map Prod.fst)
    (hk : ∀ q : Nat, q < H.size → ¬ va_A wc H.size q → H1[q]? = H[q]?) (hF : ∀ q, va_A wc H.size q → A0 q) (hP1 : va_P D cl u H1) (hD1 : va_D (va_A wc H.size) u) : va_P D cl (wset ws isC u) H1 ∧ va_D A0 (wset ws isC u) := by
  refine va_joinW (wc := wc) (B := va_A wc H.size) hP hD isC hC hf (fun j z hz => va_A.in hz) (fun q h => Or.inr h) (wq_nb hP hD isC hC) (fun q h => ?_) hk hF hP1 hD1
  rcases h with ⟨k, e, h⟩ | h
  · exact Or.inl ⟨k, _, h, rfl⟩
  · exact Or.inr (Or.inl h)
theorem wset_in {is : List Nat} {ws u : va_W} (hl : is.length ≤ u.length) {k : Nat} {q : Nat × va_E} (h : (wset ws is u)[k]? = some q) : (∃ j : Nat, u[j]? = some q) ∨ ∃ k : Nat, k ∉ is ∧ ws[k]? = some q := by
  rcases wset_mem is ws u q hl (List.mem_of_getElem? h) with h | h
  · exact Or.inl (List.getElem?_of_mem h)
  · exact Or.inr h
theorem wq_jQ {A0 : Nat → Prop} {D : va_G} {cl : List vw_C} {ws wc u pl : va_W} {H H1 : Heap} (hP : va_P D cl (ws ++ pl) H) (hD : va_D A0 (ws ++ pl)) (isC : List Nat) (hC : isC.map (fun i => ws[i]?) = wc.map some) (hf : (u.take isC.length).map Prod.fst = wc.map Prod.fst)
    (hk : ∀ q : Nat, q < H.size → ¬ va_A wc H.size q → H1[q]? = H[q]?) (hF : ∀ q, va_A wc H.size q → A0 q) (hP1 : va_P D cl u H1) (hD1 : va_D (va_A wc H.size) u) : va_P D cl (wset ws isC u ++ pl) H1 ∧ va_D A0 (wset ws isC u ++ pl) := by
  obtain ⟨h1, h2⟩ := wq_jW (vP_left hP) (vD_left hD) isC hC hf hk hF hP1 hD1
  have hpl : ∀ (k : Nat) (q : Nat × va_E), pl[k]? = some q → q.1 < H.size ∧ ¬ va_A wc H.size q.1 := fun k q hq => by
    refine ⟨wq_inH (vP_right hP) hq, fun h => ?_⟩
    rcases h with ⟨k2, e, h⟩ | h
    · obtain ⟨j, h3, h4⟩ := va_in_of isC hC h
      exact vD_apart hD j k _ q h4 hq rfl
    · have := wq_inH (vP_right hP) hq
      omega
  refine ⟨va_P.app h1 (fun k q hq => (vP_right hP k q hq).kept (hk q.1 (hpl k q hq).1 (hpl k q hq).2)), va_D.app h2 (vD_right hD) (fun i j x y hx hy e => ?_)⟩
  rcases wset_in (wset_len hC hf) hx with ⟨j2, h⟩ | ⟨k2, -, h⟩
  · exact (hpl j y hy).2 (by rw [← e]; exact hD1.2 _ _ h)
  · exact vD_apart hD k2 j x y h hy e
theorem wq_jP {A0 : Nat → Prop} {D : va_G} {cl : List vw_C} {ws wc ux pl : va_W} {H H1 : Heap} (hP : va_P D cl (ws ++ pl) H) (hD : va_D A0 (ws ++ pl)) (isC : List Nat) (hC : isC.map (fun i => ws[i]?) = wc.map some) (hf : (ux.take isC.length).map Prod.fst = wc.map Prod.fst)
    (hk : ∀ q : Nat, q < H.size → ¬ va_A (wc ++ pl) H.size q → H1[q]? = H[q]?) (hF : ∀ q, va_A (wc ++ pl) H.size q → A0 q) (hP1 : va_P D cl (ux ++ pl) H1) (hD1 : va_D (va_A (wc ++ pl) H.size) (ux ++ pl)) : va_P D cl (wset ws isC ux ++ pl) H1 ∧ va_D A0 (wset ws isC ux ++ pl) := by
  have cut : ∀ q, va_A (wc ++ pl) H.size q → va_A wc H.size q ∨ ∃ (k : Nat) (e : va_E), pl[k]? = some (q, e) := fun q h => by
    rcases h with ⟨k, e, h⟩ | h
    · by_cases hk : k < wc.length
      · rw [List.getElem?_append_left hk] at h
        exact Or.inl (Or.inl ⟨k, e, h⟩)
      · rw [List.getElem?_append_right (Nat.not_lt.mp hk)] at h
        exact Or.inr ⟨_, e, h⟩
    · exact Or.inl (Or.inr h)
  obtain ⟨h1, h2⟩ := va_joinW (wc := wc) (B := va_A (wc ++ pl) H.size) (u := ux) (H1 := H1) (vP_left hP) (vD_left hD) isC hC hf (fun j z hz => va_A.in (gE_left hz)) (fun q h => Or.inr h)
    (fun k q hk hq h => by
      rcases cut _ h with h | ⟨k2, e, h⟩
      · exact wq_nb (vP_left hP) (vD_left hD) isC hC k q hk hq h
      · exact vD_apart hD k k2 q _ hq h rfl)
    (fun q h => by
      rcases cut _ h with (⟨k, e, h⟩ | h) | ⟨k2, e, h⟩
      · exact Or.inl ⟨k, _, h, rfl⟩
      · exact Or.inr (Or.inl h)
      · exact Or.inr (Or.inr fun k z hz => vD_apart hD k k2 z _ hz h)) hk hF (vP_left hP1) (vD_left hD1)
  refine ⟨va_P.app h1 (vP_right hP1), va_D.app h2 (vD_right hD) (fun i j x y hx hy e => ?_)⟩
  rcases wset_in (wset_len hC hf) hx with ⟨j2, h⟩ | ⟨k2, -, h⟩
  · exact vD_apart hD1 j2 j x y h hy e
  · exact vD_apart hD k2 j x y h hy e
/-- the callee's places as a mask over the caller's world: one pass, no numbers -/
def midx : List Bool → List Nat
  | [] => []
  | true :: m => 0 :: (midx m).map (· + 1)
  | false :: m => (midx m).map (· + 1)
def wsel : List Bool → va_W → List (Option (Nat × va_E))
  | [] => fun _ => []
  | true :: m => fun ws => match ws with
    | [] => none :: wsel m []
    | w :: ws => some w :: wsel m ws
  | false :: m => fun ws => match ws with
    | [] => wsel m []
    | _ :: ws => wsel m ws
def wput : List Bool → va_W → va_W → va_W
  | [] => fun ws u => ws ++ u
  | true :: m => fun ws u => match u with
    | [] => ws
    | c :: u => match ws with
      | [] => wput m [] u
      | _ :: ws => c :: wput m ws u
  | false :: m => fun ws u => match ws with
    | [] => wput m [] u
    | w :: ws => w :: wput m ws u
theorem midx_sel : ∀ (m : List Bool) (ws : va_W), (midx m).map (fun i => ws[i]?) = wsel m ws
  | [], _ => rfl
  | true :: m, [] => by
    have h := midx_sel m []
    show none :: ((midx m).map (· + 1)).map (fun i => ([] : va_W)[i]?) = none :: wsel m []
    rw [← h, List.map_map]
    congr 1
  | true :: m, w :: ws => by
    have h := midx_sel m ws
    show some w :: ((midx m).map (· + 1)).map (fun i => (w :: ws)[i]?) = some w :: wsel m ws
    rw [← h, List.map_map]
    congr 1
  | false :: m, [] => by
    have h := midx_sel m []
    show ((midx m).map (· + 1)).map (fun i => ([] : va_W)[i]?) = wsel m []
    rw [← h, List.map_map]
    congr 1
  | false :: m, w :: ws => by
    have h := midx_sel m ws
    show ((midx m).map (· + 1)).map (fun i => (w :: ws)[i]?) = wsel m ws
    rw [← h, List.map_map]
    congr 1
theorem wset_up (w : Nat × va_E) : ∀ (is : List Nat) (ws u : va_W), wsetL (is.map (· + 1)) (w :: ws) u = w :: wsetL is ws u
  | [], _, _ => rfl
  | _ :: _, _, [] => rfl
  | i :: is, ws, c :: u => wset_up w is (ws.set i c) u
theorem wset_nil : ∀ (is : List Nat) (u : va_W), wsetL (is.map (· + 1)) [] u = wsetL is [] u
  | [], _ => rfl
  | _ :: _, [] => rfl
  | _ :: is, _ :: u => wset_nil is u
theorem wput_set : ∀ (m : List Bool) (ws u : va_W), wput m ws u = wset ws (midx m) u
  | [], _, _ => rfl
  | true :: m, ws, [] => rfl
  | true :: m, [], c :: u => (wput_set m [] u).trans (wset_nil (midx m) u).symm
  | true :: m, w :: ws, c :: u => by
    show c :: wput m ws u = wsetL ((midx m).map (· + 1)) (c :: ws) u
    rw [wset_up, wput_set m ws u]
    rfl
  | false :: m, [], u => (wput_set m [] u).trans (wset_nil (midx m) u).symm
  | false :: m, w :: ws, u => by
    show w :: wput m ws u = wsetL ((midx m).map (· + 1)) (w :: ws) u
    rw [wset_up, wput_set m ws u]
    rfl
theorem va_nd_of : ∀ (l : List Nat), l.Nodup → va_nd l = true
  | [], _ => rfl
  | a :: l, h => by
    have h1 := List.nodup_cons.mp h
    show (decide (a ∉ l) && va_nd l) = true
    rw [va_nd_of l h1.2, decide_eq_true h1.1]
    rfl
theorem midx_nd : ∀ (m : List Bool), (midx m).Nodup
  | [] => List.Pairwise.nil
  | true :: m => List.nodup_cons.mpr ⟨by simp, List.Pairwise.map (· + 1) (fun _ _ h e => h (Nat.succ.inj e)) (midx_nd m)⟩
  | false :: m => List.Pairwise.map (· + 1) (fun _ _ h e => h (Nat.succ.inj e)) (midx_nd m)
/-- a callee's addresses come back in their order: as many of u as wc has -/
def wfs : va_W → va_W → List Nat
  | [] => fun _ => []
  | _ :: wc => fun u => match u with
    | [] => []
    | c :: u => c.1 :: wfs wc u
theorem wfs_take : ∀ (wc u : va_W), wfs wc u = (u.take wc.length).map Prod.fst
  | [], _ => rfl
  | _ :: _, [] => rfl
  | _ :: wc, c :: u => by
    show c.1 :: wfs wc u = c.1 :: (u.take wc.length).map Prod.fst
    rw [wfs_take wc u]
theorem wm_f {mk : List Bool} {ws wc u : va_W} (hC : wsel mk ws = wc.map some) (hf : wfs wc u = wc.map Prod.fst) : (u.take (midx mk).length).map Prod.fst = wc.map Prod.fst := by
  have h1 := congrArg List.length ((midx_sel mk ws).trans hC)
  rw [List.length_map, List.length_map] at h1
  rw [h1, ← wfs_take]
  exact hf
theorem wm_preS {D : va_G} {ty : Nat → ClassId} {td mi : Nat} {ws wc : va_W} {s : State} {H : Heap} {A : Nat → Prop} {locs : List Loc} {As : List Value} (hP : va_P D vwCl ws H) (hD : va_D A ws) (hK : va_K D vwCl (wq_ty ty) s) (hE : wq_E A td mi s s.heap) (hS : va_S A s.heap H locs) (hA : ∀ q, s.heap.size ≤ q → A q) (mk : List Bool) (hC : wsel mk ws = wc.map some) : PreS s H (va_Pc As (wq_P D ty td mi wc H.size)) As := wq_preS hP hD hK hE hS hA (midx mk) ((midx_sel mk ws).trans hC) (va_nd_of _ (midx_nd mk))
theorem wm_preSP {D : va_G} {ty : Nat → ClassId} {td mi : Nat} {X cx pl : va_W} {s : State} {H : Heap} {A : Nat → Prop} {locs : List Loc} {As : List Value} (hP : va_P D vwCl (X ++ pl) H) (hD : va_D A (X ++ pl)) (hK : va_K D vwCl (wq_ty ty) s) (hE : wq_E A td mi s s.heap) (hS : va_S A s.heap H locs) (hA : ∀ q, s.heap.size ≤ q → A q) (mk : List Bool) (hC : wsel mk X = cx.map some) : PreS s H (va_Pc As (wq_P D ty td mi (cx ++ pl) H.size)) As := wq_preSP hP hD hK hE hS hA (midx mk) ((midx_sel mk X).trans hC) (va_nd_of _ (midx_nd mk))
theorem wm_free {A0 : Nat → Prop} {ws wc : va_W} {H0 H : Heap} {locs : List Loc} (hD : va_D A0 ws) (hS : va_S A0 H0 H locs) (hA : ∀ q, H0.size ≤ q → A0 q) (mk : List Bool) (hC : wsel mk ws = wc.map some) : ∀ q, va_A wc H.size q → A0 q := va_free hD hS hA (midx mk) ((midx_sel mk ws).trans hC)
theorem wm_V {s : State} {H : Heap} {C : String} {b : Nat} {Pc : Array Value → State → Prop} {As : List Value} (h : PreS s H Pc (.ref b :: As)) (hr : ∃ cell : Cell, H[b]? = some cell ∧ cell.vm.isStatics = false ∧ s.vm.findClass C = some cell.cls) : PreV s H C b Pc As := ⟨h.1, hr, h.2⟩
theorem wm_jW {A0 : Nat → Prop} {D : va_G} {cl : List vw_C} {ws wc u : va_W} {H H1 : Heap} (hP : va_P D cl ws H) (hD : va_D A0 ws) (mk : List Bool) (hC : wsel mk ws = wc.map some) (hf : wfs wc u = wc.map Prod.fst)
    (hk : ∀ q : Nat, q < H.size → ¬ va_A wc H.size q → H1[q]? = H[q]?) (hF : ∀ q, va_A wc H.size q → A0 q) (hP1 : va_P D cl u H1) (hD1 : va_D (va_A wc H.size) u) : va_P D cl (wput mk ws u) H1 ∧ va_D A0 (wput mk ws u) := by
  rw [wput_set]
  exact wq_jW hP hD (midx mk) ((midx_sel mk ws).trans hC) (wm_f hC hf) hk hF hP1 hD1
theorem wm_jQ {A0 : Nat → Prop} {D : va_G} {cl : List vw_C} {ws wc u pl : va_W} {H H1 : Heap} (hP : va_P D cl (ws ++ pl) H) (hD : va_D A0 (ws ++ pl)) (mk : List Bool) (hC : wsel mk ws = wc.map some) (hf : wfs wc u = wc.map Prod.fst)
    (hk : ∀ q : Nat, q < H.size → ¬ va_A wc H.size q → H1[q]? = H[q]?) (hF : ∀ q, va_A wc H.size q → A0 q) (hP1 : va_P D cl u H1) (hD1 : va_D (va_A wc H.size) u) : va_P D cl (wput mk ws u ++ pl) H1 ∧ va_D A0 (wput mk ws u ++ pl) := by
  rw [wput_set]
  exact wq_jQ hP hD (midx mk) ((midx_sel mk ws).trans hC) (wm_f hC hf) hk hF hP1 hD1
theorem wm_jP {A0 : Nat → Prop} {D : va_G} {cl : List vw_C} {ws wc ux pl : va_W} {H H1 : Heap} (hP : va_P D cl (ws ++ pl) H) (hD : va_D A0 (ws ++ pl)) (mk : List Bool) (hC : wsel mk ws = wc.map some) (hf : wfs wc ux = wc.map Prod.fst)
    (hk : ∀ q : Nat, q < H.size → ¬ va_A (wc ++ pl) H.size q → H1[q]? = H[q]?) (hF : ∀ q, va_A (wc ++ pl) H.size q → A0 q) (hP1 : va_P D cl (ux ++ pl) H1) (hD1 : va_D (va_A (wc ++ pl) H.size) (ux ++ pl)) : va_P D cl (wput mk ws ux ++ pl) H1 ∧ va_D A0 (wput mk ws ux ++ pl) := by
  rw [wput_set]
  exact wq_jP hP hD (midx mk) ((midx_sel mk ws).trans hC) (wm_f hC hf) hk hF hP1 hD1
def wq_BX (D : va_G) (A : Nat → Prop) (E : String) (u : String × va_W) (t : State) : Prop := E = u.1 ∧ wq_B D A u.2 t
theorem wq_B.nil {D : va_G} {A : Nat → Prop} {t : State} : wq_B D A [] t := ⟨fun k q h => by simp at h, fun i j p q h => by simp at h, fun k q h => by simp at h⟩
/-- the words of a throw that a class's own list doesn't hold -/
theorem wq_hat {args : Array Value} {s : State} {own E : String} {ic : Nat} {A : Nat → Prop} {td mi : Nat} {H : Heap} {Ts : List Cond} (hE : wq_E A td mi s H) (hts : ∀ w ∈ Ts, w.before args s = true) (hin : ∀ w ∈ (vx_atS own ic E ["java/lang/RuntimeException", "java/lang/Exception"]).filter goodWord, w ∈ Ts)
    (hb : ∀ w ∈ (vx_atS own ic E ["java/lang/RuntimeException", "java/lang/Exception"]).filter (fun w => !goodWord w), w ∈ ([.castable E E, .declares ⟨"java/lang/RuntimeException", "<init>", "(Ljava/lang/String;)V"⟩, .declares ⟨"java/lang/Exception", "<init>", "(Ljava/lang/String;)V"⟩, .declares ⟨"java/lang/Throwable", "<init>", "(Ljava/lang/String;)V"⟩] : List Cond)) (hc : (E, E) ∈ wq_ca) : ∀ w ∈ vx_atS own ic E ["java/lang/RuntimeException", "java/lang/Exception"], w.before args s = true :=
  vx_hat (fun w hw => hts w (hin w hw)) hb (vx_c (va_Nw.use rfl (hE.ca E E hc)) (vx_c (va_Nw.use rfl (hE.de _ (by decide +kernel))) (vx_c (va_Nw.use rfl (hE.de _ (by decide +kernel))) (vx_c (va_Nw.use rfl (hE.de _ (by decide +kernel))) vx_n))))
section WXW
variable {p : Program} {l : Launch} {e : Env} {R : Room} {s : State} {m : MethodId} {args : Array Value} {below : List Frame} {meth : Method} {c : Code} {H : Heap} {locs : List Loc} {cells slots : Nat} {Q : State → Prop}
variable {cc : ByteArray} {pc : Nat} {ls : Array Slot} {rest st0 : List Value} {a : Array Value} {A0 : Nat → Prop} {H0 : Heap} {mc ms : Nat} {D : va_G} {ws wc wr : va_W}
variable {pl : va_W}
theorem wq_thrW {px : String × va_W → Prop} {A : Nat → Prop} {E : String} {W : va_W} (hS : va_S A s.heap H locs) (hP : va_P D vwCl W H) (hD : va_D A W) (hp : px (E, W)) {t : State} (hz : H.size ≤ t.heap.size) (hk : ∀ q : Nat, q < H.size → t.heap[q]? = H[q]?) : vx_X px (wq_BX D A) A E s t := by
  refine ⟨(E, W), hp, ⟨rfl, va_P.kept hP (fun k q hq => hk q.1 ?_), hD⟩, Nat.le_trans hS.1 hz, fun q h1 h2 => (hk q (Nat.lt_of_lt_of_le h1 hS.1)).trans (hS.2.1 q h1 h2)⟩
  exact wq_inH hP hq
theorem wq_thrW0 {px : String × va_W → Prop} {A : Nat → Prop} {E : String} {W : va_W} (hS : va_S A s.heap H locs) (hP : va_P D vwCl W H) (hD : va_D A W) (hp : px (E, W)) {t : State} (ht : t.heap = H) : vx_X px (wq_BX D A) A E s t := wq_thrW hS hP hD hp (by rw [ht]; exact Nat.le_refl _) (fun q _ => by rw [ht])
theorem wq_vW {post : va_W → Prop} (hr : va_Run p l e R s m args below meth c H locs cells slots mc ms (F0 m pc ls st0) rest (va_Qv post (wq_B D (va_A wc H.size)) (va_A wc H.size) a) (va_A wc H.size)) (hS : va_S A0 H0 H locs) (hA : ∀ q, H0.size ≤ q → A0 q) (hP : va_P D vwCl ws H) (hD : va_D A0 ws) (mk : List Bool) (hC : wsel mk ws = wc.map some) (hf : ∀ (u : va_W), post u → wfs wc u = wc.map Prod.fst)
    (kk : ∀ (u : va_W) (H1 : Heap) (locs1 : List Loc), post u → va_P D vwCl (wput mk ws u) H1 → va_D A0 (wput mk ws u) → va_S A0 H0 H1 locs1 → W p l e R s m args below meth c H1 locs1 (cells + mc) (slots + ms) Q (F0 m (pc + 3) ls rest)) : W p l e R s m args below meth c H locs cells slots Q (F0 m pc ls st0) := by
  have hFc := va_free (wc := wc) hD hS hA (midx mk) ((midx_sel mk ws).trans hC)
  refine va_callv hr hS (fun q _ h => hFc q h) hFc (fun u t H1 locs1 ht hvm hw hB hz1 hk1 hS1 => ?_)
  obtain ⟨hP1, hD1⟩ := hB
  rw [ht] at hP1
  obtain ⟨hP2, hD2⟩ := wm_jW hP hD mk hC (hf _ hw) hk1 hFc hP1 hD1
  exact kk u H1 locs1 hw hP2 hD2 hS1
theorem wq_vQW {post : va_W → Prop} (hr : va_Run p l e R s m args below meth c H locs cells slots mc ms (F0 m pc ls st0) rest (va_Qv post (wq_B D (va_A wc H.size)) (va_A wc H.size) a) (va_A wc H.size)) (hS : va_S A0 H0 H locs) (hA : ∀ q, H0.size ≤ q → A0 q) (hP : va_P D vwCl (ws ++ pl) H) (hD : va_D A0 (ws ++ pl)) (mk : List Bool) (hC : wsel mk ws = wc.map some) (hf : ∀ (u : va_W), post u → wfs wc u = wc.map Prod.fst)
    (kk : ∀ (u : va_W) (H1 : Heap) (locs1 : List Loc), post u → va_P D vwCl (wput mk ws u ++ pl) H1 → va_D A0 (wput mk ws u ++ pl) → va_S A0 H0 H1 locs1 → W p l e R s m args below meth c H1 locs1 (cells + mc) (slots + ms) Q (F0 m (pc + 3) ls rest)) : W p l e R s m args below meth c H locs cells slots Q (F0 m pc ls st0) := by
  have hFc := va_free (wc := wc) (vD_left hD) hS hA (midx mk) ((midx_sel mk ws).trans hC)
  refine va_callv hr hS (fun q _ h => hFc q h) hFc (fun u t H1 locs1 ht hvm hw hB hz1 hk1 hS1 => ?_)
  obtain ⟨hP1, hD1⟩ := hB
  rw [ht] at hP1
  obtain ⟨hP2, hD2⟩ := wm_jQ hP hD mk hC (hf _ hw) hk1 hFc hP1 hD1
  exact kk u H1 locs1 hw hP2 hD2 hS1
theorem wq_vPW {post : va_W → Prop} {ux : va_W} (hr : va_Run p l e R s m args below meth c H locs cells slots mc ms (F0 m pc ls st0) rest (va_Qv post (wq_B D (va_A (wc ++ pl) H.size)) (va_A (wc ++ pl) H.size) a) (va_A (wc ++ pl) H.size)) (hS : va_S A0 H0 H locs) (hA : ∀ q, H0.size ≤ q → A0 q) (hP : va_P D vwCl (ws ++ pl) H) (hD : va_D A0 (ws ++ pl)) (mk : List Bool) (hC : wsel mk ws = wc.map some) (hf : wfs wc ux = wc.map Prod.fst) (hu : ∀ (u : va_W), post u → u = ux ++ pl)
    (kk : ∀ (H1 : Heap) (locs1 : List Loc), post (ux ++ pl) → va_P D vwCl (wput mk ws ux ++ pl) H1 → va_D A0 (wput mk ws ux ++ pl) → va_S A0 H0 H1 locs1 → W p l e R s m args below meth c H1 locs1 (cells + mc) (slots + ms) Q (F0 m (pc + 3) ls rest)) : W p l e R s m args below meth c H locs cells slots Q (F0 m pc ls st0) := by
  have hFc := va_freeP (cx := wc) hD hS hA (midx mk) ((midx_sel mk ws).trans hC)
  refine va_callv hr hS (fun q _ h => hFc q h) hFc (fun u t H1 locs1 ht hvm hw hB hz1 hk1 hS1 => ?_)
  obtain rfl := hu _ hw
  obtain ⟨hP1, hD1⟩ := hB
  rw [ht] at hP1
  obtain ⟨hP2, hD2⟩ := wm_jP hP hD mk hC hf hk1 hFc hP1 hD1
  exact kk H1 locs1 hw hP2 hD2 hS1
theorem wq_iW {post : Int32 → va_W → Prop} (hr : va_Run p l e R s m args below meth c H locs cells slots mc ms (F0 m pc ls st0) rest (va_Qi post (wq_B D (va_A wc H.size)) (va_A wc H.size) a) (va_A wc H.size)) (hS : va_S A0 H0 H locs) (hA : ∀ q, H0.size ≤ q → A0 q) (hP : va_P D vwCl ws H) (hD : va_D A0 ws) (mk : List Bool) (hC : wsel mk ws = wc.map some) (hf : ∀ (r : Int32) (u : va_W), post r u → wfs wc u = wc.map Prod.fst)
    (kk : ∀ (r : Int32) (u : va_W) (H1 : Heap) (locs1 : List Loc), post r u → va_P D vwCl (wput mk ws u) H1 → va_D A0 (wput mk ws u) → va_S A0 H0 H1 locs1 → W p l e R s m args below meth c H1 locs1 (cells + mc) (slots + ms) Q (F0 m (pc + 3) ls (.int r :: rest))) : W p l e R s m args below meth c H locs cells slots Q (F0 m pc ls st0) := by
  have hFc := va_free (wc := wc) hD hS hA (midx mk) ((midx_sel mk ws).trans hC)
  refine va_calli hr hS (fun q _ h => hFc q h) hFc (fun r u t H1 locs1 ht hvm hw hB hz1 hk1 hS1 => ?_)
  obtain ⟨hP1, hD1⟩ := hB
  rw [ht] at hP1
  obtain ⟨hP2, hD2⟩ := wm_jW hP hD mk hC (hf _ _ hw) hk1 hFc hP1 hD1
  exact kk r u H1 locs1 hw hP2 hD2 hS1
theorem wq_iQW {post : Int32 → va_W → Prop} (hr : va_Run p l e R s m args below meth c H locs cells slots mc ms (F0 m pc ls st0) rest (va_Qi post (wq_B D (va_A wc H.size)) (va_A wc H.size) a) (va_A wc H.size)) (hS : va_S A0 H0 H locs) (hA : ∀ q, H0.size ≤ q → A0 q) (hP : va_P D vwCl (ws ++ pl) H) (hD : va_D A0 (ws ++ pl)) (mk : List Bool) (hC : wsel mk ws = wc.map some) (hf : ∀ (r : Int32) (u : va_W), post r u → wfs wc u = wc.map Prod.fst)
    (kk : ∀ (r : Int32) (u : va_W) (H1 : Heap) (locs1 : List Loc), post r u → va_P D vwCl (wput mk ws u ++ pl) H1 → va_D A0 (wput mk ws u ++ pl) → va_S A0 H0 H1 locs1 → W p l e R s m args below meth c H1 locs1 (cells + mc) (slots + ms) Q (F0 m (pc + 3) ls (.int r :: rest))) : W p l e R s m args below meth c H locs cells slots Q (F0 m pc ls st0) := by
  have hFc := va_free (wc := wc) (vD_left hD) hS hA (midx mk) ((midx_sel mk ws).trans hC)
  refine va_calli hr hS (fun q _ h => hFc q h) hFc (fun r u t H1 locs1 ht hvm hw hB hz1 hk1 hS1 => ?_)
  obtain ⟨hP1, hD1⟩ := hB
  rw [ht] at hP1
  obtain ⟨hP2, hD2⟩ := wm_jQ hP hD mk hC (hf _ _ hw) hk1 hFc hP1 hD1
  exact kk r u H1 locs1 hw hP2 hD2 hS1
theorem wq_iPW {post : Int32 → va_W → Prop} {ux : va_W} (hr : va_Run p l e R s m args below meth c H locs cells slots mc ms (F0 m pc ls st0) rest (va_Qi post (wq_B D (va_A (wc ++ pl) H.size)) (va_A (wc ++ pl) H.size) a) (va_A (wc ++ pl) H.size)) (hS : va_S A0 H0 H locs) (hA : ∀ q, H0.size ≤ q → A0 q) (hP : va_P D vwCl (ws ++ pl) H) (hD : va_D A0 (ws ++ pl)) (mk : List Bool) (hC : wsel mk ws = wc.map some) (hf : wfs wc ux = wc.map Prod.fst) (hu : ∀ (r : Int32) (u : va_W), post r u → u = ux ++ pl)
    (kk : ∀ (r : Int32) (H1 : Heap) (locs1 : List Loc), post r (ux ++ pl) → va_P D vwCl (wput mk ws ux ++ pl) H1 → va_D A0 (wput mk ws ux ++ pl) → va_S A0 H0 H1 locs1 → W p l e R s m args below meth c H1 locs1 (cells + mc) (slots + ms) Q (F0 m (pc + 3) ls (.int r :: rest))) : W p l e R s m args below meth c H locs cells slots Q (F0 m pc ls st0) := by
  have hFc := va_freeP (cx := wc) hD hS hA (midx mk) ((midx_sel mk ws).trans hC)
  refine va_calli hr hS (fun q _ h => hFc q h) hFc (fun r u t H1 locs1 ht hvm hw hB hz1 hk1 hS1 => ?_)
  obtain rfl := hu _ _ hw
  obtain ⟨hP1, hD1⟩ := hB
  rw [ht] at hP1
  obtain ⟨hP2, hD2⟩ := wm_jP hP hD mk hC hf hk1 hFc hP1 hD1
  exact kk r H1 locs1 hw hP2 hD2 hS1
theorem wq_lW {post : Int64 → va_W → Prop} (hr : va_Run p l e R s m args below meth c H locs cells slots mc ms (F0 m pc ls st0) rest (va_Ql post (wq_B D (va_A wc H.size)) (va_A wc H.size) a) (va_A wc H.size)) (hS : va_S A0 H0 H locs) (hA : ∀ q, H0.size ≤ q → A0 q) (hP : va_P D vwCl ws H) (hD : va_D A0 ws) (mk : List Bool) (hC : wsel mk ws = wc.map some) (hf : ∀ (r : Int64) (u : va_W), post r u → wfs wc u = wc.map Prod.fst)
    (kk : ∀ (r : Int64) (u : va_W) (H1 : Heap) (locs1 : List Loc), post r u → va_P D vwCl (wput mk ws u) H1 → va_D A0 (wput mk ws u) → va_S A0 H0 H1 locs1 → W p l e R s m args below meth c H1 locs1 (cells + mc) (slots + ms) Q (F0 m (pc + 3) ls (.long r :: rest))) : W p l e R s m args below meth c H locs cells slots Q (F0 m pc ls st0) := by
  have hFc := va_free (wc := wc) hD hS hA (midx mk) ((midx_sel mk ws).trans hC)
  refine va_calll hr hS (fun q _ h => hFc q h) hFc (fun r u t H1 locs1 ht hvm hw hB hz1 hk1 hS1 => ?_)
  obtain ⟨hP1, hD1⟩ := hB
  rw [ht] at hP1
  obtain ⟨hP2, hD2⟩ := wm_jW hP hD mk hC (hf _ _ hw) hk1 hFc hP1 hD1
  exact kk r u H1 locs1 hw hP2 hD2 hS1
theorem wq_lQW {post : Int64 → va_W → Prop} (hr : va_Run p l e R s m args below meth c H locs cells slots mc ms (F0 m pc ls st0) rest (va_Ql post (wq_B D (va_A wc H.size)) (va_A wc H.size) a) (va_A wc H.size)) (hS : va_S A0 H0 H locs) (hA : ∀ q, H0.size ≤ q → A0 q) (hP : va_P D vwCl (ws ++ pl) H) (hD : va_D A0 (ws ++ pl)) (mk : List Bool) (hC : wsel mk ws = wc.map some) (hf : ∀ (r : Int64) (u : va_W), post r u → wfs wc u = wc.map Prod.fst)
    (kk : ∀ (r : Int64) (u : va_W) (H1 : Heap) (locs1 : List Loc), post r u → va_P D vwCl (wput mk ws u ++ pl) H1 → va_D A0 (wput mk ws u ++ pl) → va_S A0 H0 H1 locs1 → W p l e R s m args below meth c H1 locs1 (cells + mc) (slots + ms) Q (F0 m (pc + 3) ls (.long r :: rest))) : W p l e R s m args below meth c H locs cells slots Q (F0 m pc ls st0) := by
  have hFc := va_free (wc := wc) (vD_left hD) hS hA (midx mk) ((midx_sel mk ws).trans hC)
  refine va_calll hr hS (fun q _ h => hFc q h) hFc (fun r u t H1 locs1 ht hvm hw hB hz1 hk1 hS1 => ?_)
  obtain ⟨hP1, hD1⟩ := hB
  rw [ht] at hP1
  obtain ⟨hP2, hD2⟩ := wm_jQ hP hD mk hC (hf _ _ hw) hk1 hFc hP1 hD1
  exact kk r u H1 locs1 hw hP2 hD2 hS1
theorem wq_lPW {post : Int64 → va_W → Prop} {ux : va_W} (hr : va_Run p l e R s m args below meth c H locs cells slots mc ms (F0 m pc ls st0) rest (va_Ql post (wq_B D (va_A (wc ++ pl) H.size)) (va_A (wc ++ pl) H.size) a) (va_A (wc ++ pl) H.size)) (hS : va_S A0 H0 H locs) (hA : ∀ q, H0.size ≤ q → A0 q) (hP : va_P D vwCl (ws ++ pl) H) (hD : va_D A0 (ws ++ pl)) (mk : List Bool) (hC : wsel mk ws = wc.map some) (hf : wfs wc ux = wc.map Prod.fst) (hu : ∀ (r : Int64) (u : va_W), post r u → u = ux ++ pl)
    (kk : ∀ (r : Int64) (H1 : Heap) (locs1 : List Loc), post r (ux ++ pl) → va_P D vwCl (wput mk ws ux ++ pl) H1 → va_D A0 (wput mk ws ux ++ pl) → va_S A0 H0 H1 locs1 → W p l e R s m args below meth c H1 locs1 (cells + mc) (slots + ms) Q (F0 m (pc + 3) ls (.long r :: rest))) : W p l e R s m args below meth c H locs cells slots Q (F0 m pc ls st0) := by
  have hFc := va_freeP (cx := wc) hD hS hA (midx mk) ((midx_sel mk ws).trans hC)
  refine va_calll hr hS (fun q _ h => hFc q h) hFc (fun r u t H1 locs1 ht hvm hw hB hz1 hk1 hS1 => ?_)
  obtain rfl := hu _ _ hw
  obtain ⟨hP1, hD1⟩ := hB
  rw [ht] at hP1
  obtain ⟨hP2, hD2⟩ := wm_jP hP hD mk hC hf hk1 hFc hP1 hD1
  exact kk r H1 locs1 hw hP2 hD2 hS1
theorem wq_rW {post : Value → va_W → Prop} (hr : va_Run p l e R s m args below meth c H locs cells slots mc ms (F0 m pc ls st0) rest (wq_Qr post (wq_B D (va_A wc H.size)) (va_A wc H.size) a) (va_A wc H.size)) (hS : va_S A0 H0 H locs) (hA : ∀ q, H0.size ≤ q → A0 q) (hP : va_P D vwCl ws H) (hD : va_D A0 ws) (mk : List Bool) (hC : wsel mk ws = wc.map some) (hf : ∀ (r : Value) (u : va_W), post r u → wfs wc u = wc.map Prod.fst)
    (kk : ∀ (r : Value) (u : va_W) (H1 : Heap) (locs1 : List Loc), post r u → va_P D vwCl (wput mk ws u) H1 → va_D A0 (wput mk ws u) → va_S A0 H0 H1 locs1 → W p l e R s m args below meth c H1 locs1 (cells + mc) (slots + ms) Q (F0 m (pc + 3) ls (r :: rest))) : W p l e R s m args below meth c H locs cells slots Q (F0 m pc ls st0) := by
  have hFc := va_free (wc := wc) hD hS hA (midx mk) ((midx_sel mk ws).trans hC)
  refine wq_callr hr hS (fun q _ h => hFc q h) hFc (fun r u t H1 locs1 ht hvm hw hB hz1 hk1 hS1 => ?_)
  obtain ⟨hP1, hD1⟩ := hB
  rw [ht] at hP1
  obtain ⟨hP2, hD2⟩ := wm_jW hP hD mk hC (hf _ _ hw) hk1 hFc hP1 hD1
  exact kk r u H1 locs1 hw hP2 hD2 hS1
theorem wq_rQW {post : Value → va_W → Prop} (hr : va_Run p l e R s m args below meth c H locs cells slots mc ms (F0 m pc ls st0) rest (wq_Qr post (wq_B D (va_A wc H.size)) (va_A wc H.size) a) (va_A wc H.size)) (hS : va_S A0 H0 H locs) (hA : ∀ q, H0.size ≤ q → A0 q) (hP : va_P D vwCl (ws ++ pl) H) (hD : va_D A0 (ws ++ pl)) (mk : List Bool) (hC : wsel mk ws = wc.map some) (hf : ∀ (r : Value) (u : va_W), post r u → wfs wc u = wc.map Prod.fst)
    (kk : ∀ (r : Value) (u : va_W) (H1 : Heap) (locs1 : List Loc), post r u → va_P D vwCl (wput mk ws u ++ pl) H1 → va_D A0 (wput mk ws u ++ pl) → va_S A0 H0 H1 locs1 → W p l e R s m args below meth c H1 locs1 (cells + mc) (slots + ms) Q (F0 m (pc + 3) ls (r :: rest))) : W p l e R s m args below meth c H locs cells slots Q (F0 m pc ls st0) := by
  have hFc := va_free (wc := wc) (vD_left hD) hS hA (midx mk) ((midx_sel mk ws).trans hC)
  refine wq_callr hr hS (fun q _ h => hFc q h) hFc (fun r u t H1 locs1 ht hvm hw hB hz1 hk1 hS1 => ?_)
  obtain ⟨hP1, hD1⟩ := hB
  rw [ht] at hP1
  obtain ⟨hP2, hD2⟩ := wm_jQ hP hD mk hC (hf _ _ hw) hk1 hFc hP1 hD1
  exact kk r u H1 locs1 hw hP2 hD2 hS1
theorem wq_rPW {post : Value → va_W → Prop} {ux : va_W} (hr : va_Run p l e R s m args below meth c H locs cells slots mc ms (F0 m pc ls st0) rest (wq_Qr post (wq_B D (va_A (wc ++ pl) H.size)) (va_A (wc ++ pl) H.size) a) (va_A (wc ++ pl) H.size)) (hS : va_S A0 H0 H locs) (hA : ∀ q, H0.size ≤ q → A0 q) (hP : va_P D vwCl (ws ++ pl) H) (hD : va_D A0 (ws ++ pl)) (mk : List Bool) (hC : wsel mk ws = wc.map some) (hf : wfs wc ux = wc.map Prod.fst) (hu : ∀ (r : Value) (u : va_W), post r u → u = ux ++ pl)
    (kk : ∀ (r : Value) (H1 : Heap) (locs1 : List Loc), post r (ux ++ pl) → va_P D vwCl (wput mk ws ux ++ pl) H1 → va_D A0 (wput mk ws ux ++ pl) → va_S A0 H0 H1 locs1 → W p l e R s m args below meth c H1 locs1 (cells + mc) (slots + ms) Q (F0 m (pc + 3) ls (r :: rest))) : W p l e R s m args below meth c H locs cells slots Q (F0 m pc ls st0) := by
  have hFc := va_freeP (cx := wc) hD hS hA (midx mk) ((midx_sel mk ws).trans hC)
  refine wq_callr hr hS (fun q _ h => hFc q h) hFc (fun r u t H1 locs1 ht hvm hw hB hz1 hk1 hS1 => ?_)
  obtain rfl := hu _ _ hw
  obtain ⟨hP1, hD1⟩ := hB
  rw [ht] at hP1
  obtain ⟨hP2, hD2⟩ := wm_jP hP hD mk hC hf hk1 hFc hP1 hD1
  exact kk r H1 locs1 hw hP2 hD2 hS1
theorem wq_fW {post : UInt32 → va_W → Prop} (hr : va_Run p l e R s m args below meth c H locs cells slots mc ms (F0 m pc ls st0) rest (va_Qf post (wq_B D (va_A wc H.size)) (va_A wc H.size) a) (va_A wc H.size)) (hS : va_S A0 H0 H locs) (hA : ∀ q, H0.size ≤ q → A0 q) (hP : va_P D vwCl ws H) (hD : va_D A0 ws) (mk : List Bool) (hC : wsel mk ws = wc.map some) (hf : ∀ (r : UInt32) (u : va_W), post r u → wfs wc u = wc.map Prod.fst)
    (kk : ∀ (r : UInt32) (u : va_W) (H1 : Heap) (locs1 : List Loc), post r u → va_P D vwCl (wput mk ws u) H1 → va_D A0 (wput mk ws u) → va_S A0 H0 H1 locs1 → W p l e R s m args below meth c H1 locs1 (cells + mc) (slots + ms) Q (F0 m (pc + 3) ls (.float r :: rest))) : W p l e R s m args below meth c H locs cells slots Q (F0 m pc ls st0) := by
  have hFc := va_free (wc := wc) hD hS hA (midx mk) ((midx_sel mk ws).trans hC)
  refine va_callf hr hS (fun q _ h => hFc q h) hFc (fun r u t H1 locs1 ht hvm hw hB hz1 hk1 hS1 => ?_)
  obtain ⟨hP1, hD1⟩ := hB
  rw [ht] at hP1
  obtain ⟨hP2, hD2⟩ := wm_jW hP hD mk hC (hf _ _ hw) hk1 hFc hP1 hD1
  exact kk r u H1 locs1 hw hP2 hD2 hS1
theorem wq_fQW {post : UInt32 → va_W → Prop} (hr : va_Run p l e R s m args below meth c H locs cells slots mc ms (F0 m pc ls st0) rest (va_Qf post (wq_B D (va_A wc H.size)) (va_A wc H.size) a) (va_A wc H.size)) (hS : va_S A0 H0 H locs) (hA : ∀ q, H0.size ≤ q → A0 q) (hP : va_P D vwCl (ws ++ pl) H) (hD : va_D A0 (ws ++ pl)) (mk : List Bool) (hC : wsel mk ws = wc.map some) (hf : ∀ (r : UInt32) (u : va_W), post r u → wfs wc u = wc.map Prod.fst)
    (kk : ∀ (r : UInt32) (u : va_W) (H1 : Heap) (locs1 : List Loc), post r u → va_P D vwCl (wput mk ws u ++ pl) H1 → va_D A0 (wput mk ws u ++ pl) → va_S A0 H0 H1 locs1 → W p l e R s m args below meth c H1 locs1 (cells + mc) (slots + ms) Q (F0 m (pc + 3) ls (.float r :: rest))) : W p l e R s m args below meth c H locs cells slots Q (F0 m pc ls st0) := by
  have hFc := va_free (wc := wc) (vD_left hD) hS hA (midx mk) ((midx_sel mk ws).trans hC)
  refine va_callf hr hS (fun q _ h => hFc q h) hFc (fun r u t H1 locs1 ht hvm hw hB hz1 hk1 hS1 => ?_)
  obtain ⟨hP1, hD1⟩ := hB
  rw [ht] at hP1
  obtain ⟨hP2, hD2⟩ := wm_jQ hP hD mk hC (hf _ _ hw) hk1 hFc hP1 hD1
  exact kk r u H1 locs1 hw hP2 hD2 hS1
theorem wq_fPW {post : UInt32 → va_W → Prop} {ux : va_W} (hr : va_Run p l e R s m args below meth c H locs cells slots mc ms (F0 m pc ls st0) rest (va_Qf post (wq_B D (va_A (wc ++ pl) H.size)) (va_A (wc ++ pl) H.size) a) (va_A (wc ++ pl) H.size)) (hS : va_S A0 H0 H locs) (hA : ∀ q, H0.size ≤ q → A0 q) (hP : va_P D vwCl (ws ++ pl) H) (hD : va_D A0 (ws ++ pl)) (mk : List Bool) (hC : wsel mk ws = wc.map some) (hf : wfs wc ux = wc.map Prod.fst) (hu : ∀ (r : UInt32) (u : va_W), post r u → u = ux ++ pl)
    (kk : ∀ (r : UInt32) (H1 : Heap) (locs1 : List Loc), post r (ux ++ pl) → va_P D vwCl (wput mk ws ux ++ pl) H1 → va_D A0 (wput mk ws ux ++ pl) → va_S A0 H0 H1 locs1 → W p l e R s m args below meth c H1 locs1 (cells + mc) (slots + ms) Q (F0 m (pc + 3) ls (.float r :: rest))) : W p l e R s m args below meth c H locs cells slots Q (F0 m pc ls st0) := by
  have hFc := va_freeP (cx := wc) hD hS hA (midx mk) ((midx_sel mk ws).trans hC)
  refine va_callf hr hS (fun q _ h => hFc q h) hFc (fun r u t H1 locs1 ht hvm hw hB hz1 hk1 hS1 => ?_)
  obtain rfl := hu _ _ hw
  obtain ⟨hP1, hD1⟩ := hB
  rw [ht] at hP1
  obtain ⟨hP2, hD2⟩ := wm_jP hP hD mk hC hf hk1 hFc hP1 hD1
  exact kk r H1 locs1 hw hP2 hD2 hS1
theorem wq_dW {post : UInt64 → va_W → Prop} (hr : va_Run p l e R s m args below meth c H locs cells slots mc ms (F0 m pc ls st0) rest (va_Qd post (wq_B D (va_A wc H.size)) (va_A wc H.size) a) (va_A wc H.size)) (hS : va_S A0 H0 H locs) (hA : ∀ q, H0.size ≤ q → A0 q) (hP : va_P D vwCl ws H) (hD : va_D A0 ws) (mk : List Bool) (hC : wsel mk ws = wc.map some) (hf : ∀ (r : UInt64) (u : va_W), post r u → wfs wc u = wc.map Prod.fst)
    (kk : ∀ (r : UInt64) (u : va_W) (H1 : Heap) (locs1 : List Loc), post r u → va_P D vwCl (wput mk ws u) H1 → va_D A0 (wput mk ws u) → va_S A0 H0 H1 locs1 → W p l e R s m args below meth c H1 locs1 (cells + mc) (slots + ms) Q (F0 m (pc + 3) ls (.double r :: rest))) : W p l e R s m args below meth c H locs cells slots Q (F0 m pc ls st0) := by
  have hFc := va_free (wc := wc) hD hS hA (midx mk) ((midx_sel mk ws).trans hC)
  refine va_calld hr hS (fun q _ h => hFc q h) hFc (fun r u t H1 locs1 ht hvm hw hB hz1 hk1 hS1 => ?_)
  obtain ⟨hP1, hD1⟩ := hB
  rw [ht] at hP1
  obtain ⟨hP2, hD2⟩ := wm_jW hP hD mk hC (hf _ _ hw) hk1 hFc hP1 hD1
  exact kk r u H1 locs1 hw hP2 hD2 hS1
theorem wq_dQW {post : UInt64 → va_W → Prop} (hr : va_Run p l e R s m args below meth c H locs cells slots mc ms (F0 m pc ls st0) rest (va_Qd post (wq_B D (va_A wc H.size)) (va_A wc H.size) a) (va_A wc H.size)) (hS : va_S A0 H0 H locs) (hA : ∀ q, H0.size ≤ q → A0 q) (hP : va_P D vwCl (ws ++ pl) H) (hD : va_D A0 (ws ++ pl)) (mk : List Bool) (hC : wsel mk ws = wc.map some) (hf : ∀ (r : UInt64) (u : va_W), post r u → wfs wc u = wc.map Prod.fst)
    (kk : ∀ (r : UInt64) (u : va_W) (H1 : Heap) (locs1 : List Loc), post r u → va_P D vwCl (wput mk ws u ++ pl) H1 → va_D A0 (wput mk ws u ++ pl) → va_S A0 H0 H1 locs1 → W p l e R s m args below meth c H1 locs1 (cells + mc) (slots + ms) Q (F0 m (pc + 3) ls (.double r :: rest))) : W p l e R s m args below meth c H locs cells slots Q (F0 m pc ls st0) := by
  have hFc := va_free (wc := wc) (vD_left hD) hS hA (midx mk) ((midx_sel mk ws).trans hC)
  refine va_calld hr hS (fun q _ h => hFc q h) hFc (fun r u t H1 locs1 ht hvm hw hB hz1 hk1 hS1 => ?_)
  obtain ⟨hP1, hD1⟩ := hB
  rw [ht] at hP1
  obtain ⟨hP2, hD2⟩ := wm_jQ hP hD mk hC (hf _ _ hw) hk1 hFc hP1 hD1
  exact kk r u H1 locs1 hw hP2 hD2 hS1
theorem wq_dPW {post : UInt64 → va_W → Prop} {ux : va_W} (hr : va_Run p l e R s m args below meth c H locs cells slots mc ms (F0 m pc ls st0) rest (va_Qd post (wq_B D (va_A (wc ++ pl) H.size)) (va_A (wc ++ pl) H.size) a) (va_A (wc ++ pl) H.size)) (hS : va_S A0 H0 H locs) (hA : ∀ q, H0.size ≤ q → A0 q) (hP : va_P D vwCl (ws ++ pl) H) (hD : va_D A0 (ws ++ pl)) (mk : List Bool) (hC : wsel mk ws = wc.map some) (hf : wfs wc ux = wc.map Prod.fst) (hu : ∀ (r : UInt64) (u : va_W), post r u → u = ux ++ pl)
    (kk : ∀ (r : UInt64) (H1 : Heap) (locs1 : List Loc), post r (ux ++ pl) → va_P D vwCl (wput mk ws ux ++ pl) H1 → va_D A0 (wput mk ws ux ++ pl) → va_S A0 H0 H1 locs1 → W p l e R s m args below meth c H1 locs1 (cells + mc) (slots + ms) Q (F0 m (pc + 3) ls (.double r :: rest))) : W p l e R s m args below meth c H locs cells slots Q (F0 m pc ls st0) := by
  have hFc := va_freeP (cx := wc) hD hS hA (midx mk) ((midx_sel mk ws).trans hC)
  refine va_calld hr hS (fun q _ h => hFc q h) hFc (fun r u t H1 locs1 ht hvm hw hB hz1 hk1 hS1 => ?_)
  obtain rfl := hu _ _ hw
  obtain ⟨hP1, hD1⟩ := hB
  rw [ht] at hP1
  obtain ⟨hP2, hD2⟩ := wm_jP hP hD mk hC hf hk1 hFc hP1 hD1
  exact kk r H1 locs1 hw hP2 hD2 hS1
theorem wq_xvW {post : va_W → Prop} {px : String × va_W → Prop} (hr : vx_Run p l e R s m args below meth c H locs cells slots mc ms (F0 m pc ls st0) rest (va_Qv post (wq_B D (va_A wc H.size)) (va_A wc H.size) a) (vx_X px (wq_BX D (va_A wc H.size)) (va_A wc H.size)) (va_A wc H.size)) (hS : va_S A0 H0 H locs) (hA : ∀ q, H0.size ≤ q → A0 q) (hP : va_P D vwCl ws H) (hD : va_D A0 ws) (mk : List Bool) (hC : wsel mk ws = wc.map some) (hf : ∀ (u : va_W), post u → wfs wc u = wc.map Prod.fst) (hfx : ∀ (E : String) (u : va_W), px (E, u) → wfs wc u = wc.map Prod.fst)
    (kx : ∀ (E : String) (u : va_W) (H1 : Heap) (locs1 : List Loc) (q9 : Addr) (ce : Cell), px (E, u) → va_P D vwCl (wput mk ws u) H1 → va_D A0 (wput mk ws u) → va_S A0 H0 H1 locs1 → H1[q9]? = some ce → ce.vm = .none → s.vm.findClass E = some ce.cls → vx_W p l e R s m args below meth c H1 locs1 (cells + mc) (slots + ms) Q (F0 m pc ls rest) q9)
    (kk : ∀ (u : va_W) (H1 : Heap) (locs1 : List Loc), post u → va_P D vwCl (wput mk ws u) H1 → va_D A0 (wput mk ws u) → va_S A0 H0 H1 locs1 → W p l e R s m args below meth c H1 locs1 (cells + mc) (slots + ms) Q (F0 m (pc + 3) ls rest)) : W p l e R s m args below meth c H locs cells slots Q (F0 m pc ls st0) := by
  have hFc := va_free (wc := wc) hD hS hA (midx mk) ((midx_sel mk ws).trans hC)
  refine vx_callv hr hS (fun q _ h => hFc q h) hFc (fun q _ h => hFc q h) (fun E ce q9 u t H1 locs1 ht hvm hw hB hz1 hk1 hS1 hce hcv hcl => ?_) (fun u t H1 locs1 ht hvm hw hB hz1 hk1 hS1 => ?_)
  · obtain ⟨E', u'⟩ := u
    obtain ⟨hEE, hP1, hD1⟩ := hB
    dsimp only at hEE hP1 hD1
    subst hEE
    rw [ht] at hP1
    obtain ⟨hP2, hD2⟩ := wm_jW hP hD mk hC (hfx _ _ hw) hk1 hFc hP1 hD1
    exact kx E u' H1 locs1 q9 ce hw hP2 hD2 hS1 hce hcv hcl
  · obtain ⟨hP1, hD1⟩ := hB
    rw [ht] at hP1
    obtain ⟨hP2, hD2⟩ := wm_jW hP hD mk hC (hf _ hw) hk1 hFc hP1 hD1
    exact kk u H1 locs1 hw hP2 hD2 hS1
theorem wq_xvQW {post : va_W → Prop} {px : String × va_W → Prop} (hr : vx_Run p l e R s m args below meth c H locs cells slots mc ms (F0 m pc ls st0) rest (va_Qv post (wq_B D (va_A wc H.size)) (va_A wc H.size) a) (vx_X px (wq_BX D (va_A wc H.size)) (va_A wc H.size)) (va_A wc H.size)) (hS : va_S A0 H0 H locs) (hA : ∀ q, H0.size ≤ q → A0 q) (hP : va_P D vwCl (ws ++ pl) H) (hD : va_D A0 (ws ++ pl)) (mk : List Bool) (hC : wsel mk ws = wc.map some) (hf : ∀ (u : va_W), post u → wfs wc u = wc.map Prod.fst) (hfx : ∀ (E : String) (u : va_W), px (E, u) → wfs wc u = wc.map Prod.fst)
    (kx : ∀ (E : String) (u : va_W) (H1 : Heap) (locs1 : List Loc) (q9 : Addr) (ce : Cell), px (E, u) → va_P D vwCl (wput mk ws u ++ pl) H1 → va_D A0 (wput mk ws u ++ pl) → va_S A0 H0 H1 locs1 → H1[q9]? = some ce → ce.vm = .none → s.vm.findClass E = some ce.cls → vx_W p l e R s m args below meth c H1 locs1 (cells + mc) (slots + ms) Q (F0 m pc ls rest) q9)
    (kk : ∀ (u : va_W) (H1 : Heap) (locs1 : List Loc), post u → va_P D vwCl (wput mk ws u ++ pl) H1 → va_D A0 (wput mk ws u ++ pl) → va_S A0 H0 H1 locs1 → W p l e R s m args below meth c H1 locs1 (cells + mc) (slots + ms) Q (F0 m (pc + 3) ls rest)) : W p l e R s m args below meth c H locs cells slots Q (F0 m pc ls st0) := by
  have hFc := va_free (wc := wc) (vD_left hD) hS hA (midx mk) ((midx_sel mk ws).trans hC)
  refine vx_callv hr hS (fun q _ h => hFc q h) hFc (fun q _ h => hFc q h) (fun E ce q9 u t H1 locs1 ht hvm hw hB hz1 hk1 hS1 hce hcv hcl => ?_) (fun u t H1 locs1 ht hvm hw hB hz1 hk1 hS1 => ?_)
  · obtain ⟨E', u'⟩ := u
    obtain ⟨hEE, hP1, hD1⟩ := hB
    dsimp only at hEE hP1 hD1
    subst hEE
    rw [ht] at hP1
    obtain ⟨hP2, hD2⟩ := wm_jQ hP hD mk hC (hfx _ _ hw) hk1 hFc hP1 hD1
    exact kx E u' H1 locs1 q9 ce hw hP2 hD2 hS1 hce hcv hcl
  · obtain ⟨hP1, hD1⟩ := hB
    rw [ht] at hP1
    obtain ⟨hP2, hD2⟩ := wm_jQ hP hD mk hC (hf _ hw) hk1 hFc hP1 hD1
    exact kk u H1 locs1 hw hP2 hD2 hS1
theorem wq_xvPW {post : va_W → Prop} {px : String × va_W → Prop} {ux : va_W} (hr : vx_Run p l e R s m args below meth c H locs cells slots mc ms (F0 m pc ls st0) rest (va_Qv post (wq_B D (va_A (wc ++ pl) H.size)) (va_A (wc ++ pl) H.size) a) (vx_X px (wq_BX D (va_A (wc ++ pl) H.size)) (va_A (wc ++ pl) H.size)) (va_A (wc ++ pl) H.size)) (hS : va_S A0 H0 H locs) (hA : ∀ q, H0.size ≤ q → A0 q) (hP : va_P D vwCl (ws ++ pl) H) (hD : va_D A0 (ws ++ pl)) (mk : List Bool) (hC : wsel mk ws = wc.map some) (hf : wfs wc ux = wc.map Prod.fst) (hu : ∀ (u : va_W), post u → u = ux ++ pl) (hx9 : ∀ (E : String) (u : va_W), px (E, u) → u = ux ++ pl)
    (kx : ∀ (E : String) (H1 : Heap) (locs1 : List Loc) (q9 : Addr) (ce : Cell), px (E, (ux ++ pl)) → va_P D vwCl (wput mk ws ux ++ pl) H1 → va_D A0 (wput mk ws ux ++ pl) → va_S A0 H0 H1 locs1 → H1[q9]? = some ce → ce.vm = .none → s.vm.findClass E = some ce.cls → vx_W p l e R s m args below meth c H1 locs1 (cells + mc) (slots + ms) Q (F0 m pc ls rest) q9)
    (kk : ∀ (H1 : Heap) (locs1 : List Loc), post (ux ++ pl) → va_P D vwCl (wput mk ws ux ++ pl) H1 → va_D A0 (wput mk ws ux ++ pl) → va_S A0 H0 H1 locs1 → W p l e R s m args below meth c H1 locs1 (cells + mc) (slots + ms) Q (F0 m (pc + 3) ls rest)) : W p l e R s m args below meth c H locs cells slots Q (F0 m pc ls st0) := by
  have hFc := va_freeP (cx := wc) hD hS hA (midx mk) ((midx_sel mk ws).trans hC)
  refine vx_callv hr hS (fun q _ h => hFc q h) hFc (fun q _ h => hFc q h) (fun E ce q9 u t H1 locs1 ht hvm hw hB hz1 hk1 hS1 hce hcv hcl => ?_) (fun u t H1 locs1 ht hvm hw hB hz1 hk1 hS1 => ?_)
  · obtain ⟨E', u'⟩ := u
    obtain ⟨hEE, hP1, hD1⟩ := hB
    dsimp only at hEE hP1 hD1
    subst hEE
    rw [ht] at hP1
    obtain rfl := hx9 _ _ hw
    obtain ⟨hP2, hD2⟩ := wm_jP hP hD mk hC hf hk1 hFc hP1 hD1
    exact kx E H1 locs1 q9 ce hw hP2 hD2 hS1 hce hcv hcl
  · obtain rfl := hu _ hw
    obtain ⟨hP1, hD1⟩ := hB
    rw [ht] at hP1
    obtain ⟨hP2, hD2⟩ := wm_jP hP hD mk hC hf hk1 hFc hP1 hD1
    exact kk H1 locs1 hw hP2 hD2 hS1
theorem wq_xiW {post : Int32 → va_W → Prop} {px : String × va_W → Prop} (hr : vx_Run p l e R s m args below meth c H locs cells slots mc ms (F0 m pc ls st0) rest (va_Qi post (wq_B D (va_A wc H.size)) (va_A wc H.size) a) (vx_X px (wq_BX D (va_A wc H.size)) (va_A wc H.size)) (va_A wc H.size)) (hS : va_S A0 H0 H locs) (hA : ∀ q, H0.size ≤ q → A0 q) (hP : va_P D vwCl ws H) (hD : va_D A0 ws) (mk : List Bool) (hC : wsel mk ws = wc.map some) (hf : ∀ (r : Int32) (u : va_W), post r u → wfs wc u = wc.map Prod.fst) (hfx : ∀ (E : String) (u : va_W), px (E, u) → wfs wc u = wc.map Prod.fst)
    (kx : ∀ (E : String) (u : va_W) (H1 : Heap) (locs1 : List Loc) (q9 : Addr) (ce : Cell), px (E, u) → va_P D vwCl (wput mk ws u) H1 → va_D A0 (wput mk ws u) → va_S A0 H0 H1 locs1 → H1[q9]? = some ce → ce.vm = .none → s.vm.findClass E = some ce.cls → vx_W p l e R s m args below meth c H1 locs1 (cells + mc) (slots + ms) Q (F0 m pc ls rest) q9)
    (kk : ∀ (r : Int32) (u : va_W) (H1 : Heap) (locs1 : List Loc), post r u → va_P D vwCl (wput mk ws u) H1 → va_D A0 (wput mk ws u) → va_S A0 H0 H1 locs1 → W p l e R s m args below meth c H1 locs1 (cells + mc) (slots + ms) Q (F0 m (pc + 3) ls (.int r :: rest))) : W p l e R s m args below meth c H locs cells slots Q (F0 m pc ls st0) := by
  have hFc := va_free (wc := wc) hD hS hA (midx mk) ((midx_sel mk ws).trans hC)
  refine vx_calli hr hS (fun q _ h => hFc q h) hFc (fun q _ h => hFc q h) (fun E ce q9 u t H1 locs1 ht hvm hw hB hz1 hk1 hS1 hce hcv hcl => ?_) (fun r u t H1 locs1 ht hvm hw hB hz1 hk1 hS1 => ?_)
  · obtain ⟨E', u'⟩ := u
    obtain ⟨hEE, hP1, hD1⟩ := hB
    dsimp only at hEE hP1 hD1
    subst hEE
    rw [ht] at hP1
    obtain ⟨hP2, hD2⟩ := wm_jW hP hD mk hC (hfx _ _ hw) hk1 hFc hP1 hD1
    exact kx E u' H1 locs1 q9 ce hw hP2 hD2 hS1 hce hcv hcl
  · obtain ⟨hP1, hD1⟩ := hB
    rw [ht] at hP1
    obtain ⟨hP2, hD2⟩ := wm_jW hP hD mk hC (hf _ _ hw) hk1 hFc hP1 hD1
    exact kk r u H1 locs1 hw hP2 hD2 hS1
theorem wq_xiQW {post : Int32 → va_W → Prop} {px : String × va_W → Prop} (hr : vx_Run p l e R s m args below meth c H locs cells slots mc ms (F0 m pc ls st0) rest (va_Qi post (wq_B D (va_A wc H.size)) (va_A wc H.size) a) (vx_X px (wq_BX D (va_A wc H.size)) (va_A wc H.size)) (va_A wc H.size)) (hS : va_S A0 H0 H locs) (hA : ∀ q, H0.size ≤ q → A0 q) (hP : va_P D vwCl (ws ++ pl) H) (hD : va_D A0 (ws ++ pl)) (mk : List Bool) (hC : wsel mk ws = wc.map some) (hf : ∀ (r : Int32) (u : va_W), post r u → wfs wc u = wc.map Prod.fst) (hfx : ∀ (E : String) (u : va_W), px (E, u) → wfs wc u = wc.map Prod.fst)
    (kx : ∀ (E : String) (u : va_W) (H1 : Heap) (locs1 : List Loc) (q9 : Addr) (ce : Cell), px (E, u) → va_P D vwCl (wput mk ws u ++ pl) H1 → va_D A0 (wput mk ws u ++ pl) → va_S A0 H0 H1 locs1 → H1[q9]? = some ce → ce.vm = .none → s.vm.findClass E = some ce.cls → vx_W p l e R s m args below meth c H1 locs1 (cells + mc) (slots + ms) Q (F0 m pc ls rest) q9)
    (kk : ∀ (r : Int32) (u : va_W) (H1 : Heap) (locs1 : List Loc), post r u → va_P D vwCl (wput mk ws u ++ pl) H1 → va_D A0 (wput mk ws u ++ pl) → va_S A0 H0 H1 locs1 → W p l e R s m args below meth c H1 locs1 (cells + mc) (slots + ms) Q (F0 m (pc + 3) ls (.int r :: rest))) : W p l e R s m args below meth c H locs cells slots Q (F0 m pc ls st0) := by
  have hFc := va_free (wc := wc) (vD_left hD) hS hA (midx mk) ((midx_sel mk ws).trans hC)
  refine vx_calli hr hS (fun q _ h => hFc q h) hFc (fun q _ h => hFc q h) (fun E ce q9 u t H1 locs1 ht hvm hw hB hz1 hk1 hS1 hce hcv hcl => ?_) (fun r u t H1 locs1 ht hvm hw hB hz1 hk1 hS1 => ?_)
  · obtain ⟨E', u'⟩ := u
    obtain ⟨hEE, hP1, hD1⟩ := hB
    dsimp only at hEE hP1 hD1
    subst hEE
    rw [ht] at hP1
    obtain ⟨hP2, hD2⟩ := wm_jQ hP hD mk hC (hfx _ _ hw) hk1 hFc hP1 hD1
    exact kx E u' H1 locs1 q9 ce hw hP2 hD2 hS1 hce hcv hcl
  · obtain ⟨hP1, hD1⟩ := hB
    rw [ht] at hP1
    obtain ⟨hP2, hD2⟩ := wm_jQ hP hD mk hC (hf _ _ hw) hk1 hFc hP1 hD1
    exact kk r u H1 locs1 hw hP2 hD2 hS1
theorem wq_xiPW {post : Int32 → va_W → Prop} {px : String × va_W → Prop} {ux : va_W} (hr : vx_Run p l e R s m args below meth c H locs cells slots mc ms (F0 m pc ls st0) rest (va_Qi post (wq_B D (va_A (wc ++ pl) H.size)) (va_A (wc ++ pl) H.size) a) (vx_X px (wq_BX D (va_A (wc ++ pl) H.size)) (va_A (wc ++ pl) H.size)) (va_A (wc ++ pl) H.size)) (hS : va_S A0 H0 H locs) (hA : ∀ q, H0.size ≤ q → A0 q) (hP : va_P D vwCl (ws ++ pl) H) (hD : va_D A0 (ws ++ pl)) (mk : List Bool) (hC : wsel mk ws = wc.map some) (hf : wfs wc ux = wc.map Prod.fst) (hu : ∀ (r : Int32) (u : va_W), post r u → u = ux ++ pl) (hx9 : ∀ (E : String) (u : va_W), px (E, u) → u = ux ++ pl)
    (kx : ∀ (E : String) (H1 : Heap) (locs1 : List Loc) (q9 : Addr) (ce : Cell), px (E, (ux ++ pl)) → va_P D vwCl (wput mk ws ux ++ pl) H1 → va_D A0 (wput mk ws ux ++ pl) → va_S A0 H0 H1 locs1 → H1[q9]? = some ce → ce.vm = .none → s.vm.findClass E = some ce.cls → vx_W p l e R s m args below meth c H1 locs1 (cells + mc) (slots + ms) Q (F0 m pc ls rest) q9)
    (kk : ∀ (r : Int32) (H1 : Heap) (locs1 : List Loc), post r (ux ++ pl) → va_P D vwCl (wput mk ws ux ++ pl) H1 → va_D A0 (wput mk ws ux ++ pl) → va_S A0 H0 H1 locs1 → W p l e R s m args below meth c H1 locs1 (cells + mc) (slots + ms) Q (F0 m (pc + 3) ls (.int r :: rest))) : W p l e R s m args below meth c H locs cells slots Q (F0 m pc ls st0) := by
  have hFc := va_freeP (cx := wc) hD hS hA (midx mk) ((midx_sel mk ws).trans hC)
  refine vx_calli hr hS (fun q _ h => hFc q h) hFc (fun q _ h => hFc q h) (fun E ce q9 u t H1 locs1 ht hvm hw hB hz1 hk1 hS1 hce hcv hcl => ?_) (fun r u t H1 locs1 ht hvm hw hB hz1 hk1 hS1 => ?_)
  · obtain ⟨E', u'⟩ := u
    obtain ⟨hEE, hP1, hD1⟩ := hB
    dsimp only at hEE hP1 hD1
    subst hEE
    rw [ht] at hP1
    obtain rfl := hx9 _ _ hw
    obtain ⟨hP2, hD2⟩ := wm_jP hP hD mk hC hf hk1 hFc hP1 hD1
    exact kx E H1 locs1 q9 ce hw hP2 hD2 hS1 hce hcv hcl
  · obtain rfl := hu _ _ hw
    obtain ⟨hP1, hD1⟩ := hB
    rw [ht] at hP1
    obtain ⟨hP2, hD2⟩ := wm_jP hP hD mk hC hf hk1 hFc hP1 hD1
    exact kk r H1 locs1 hw hP2 hD2 hS1
theorem wq_xlW {post : Int64 → va_W → Prop} {px : String × va_W → Prop} (hr : vx_Run p l e R s m args below meth c H locs cells slots mc ms (F0 m pc ls st0) rest (va_Ql post (wq_B D (va_A wc H.size)) (va_A wc H.size) a) (vx_X px (wq_BX D (va_A wc H.size)) (va_A wc H.size)) (va_A wc H.size)) (hS : va_S A0 H0 H locs) (hA : ∀ q, H0.size ≤ q → A0 q) (hP : va_P D vwCl ws H) (hD : va_D A0 ws) (mk : List Bool) (hC : wsel mk ws = wc.map some) (hf : ∀ (r : Int64) (u : va_W), post r u → wfs wc u = wc.map Prod.fst) (hfx : ∀ (E : String) (u : va_W), px (E, u) → wfs wc u = wc.map Prod.fst)
    (kx : ∀ (E : String) (u : va_W) (H1 : Heap) (locs1 : List Loc) (q9 : Addr) (ce : Cell), px (E, u) → va_P D vwCl (wput mk ws u) H1 → va_D A0 (wput mk ws u) → va_S A0 H0 H1 locs1 → H1[q9]? = some ce → ce.vm = .none → s.vm.findClass E = some ce.cls → vx_W p l e R s m args below meth c H1 locs1 (cells + mc) (slots + ms) Q (F0 m pc ls rest) q9)
    (kk : ∀ (r : Int64) (u : va_W) (H1 : Heap) (locs1 : List Loc), post r u → va_P D vwCl (wput mk ws u) H1 → va_D A0 (wput mk ws u) → va_S A0 H0 H1 locs1 → W p l e R s m args below meth c H1 locs1 (cells + mc) (slots + ms) Q (F0 m (pc + 3) ls (.long r :: rest))) : W p l e R s m args below meth c H locs cells slots Q (F0 m pc ls st0) := by
  have hFc := va_free (wc := wc) hD hS hA (midx mk) ((midx_sel mk ws).trans hC)
  refine vx_calll hr hS (fun q _ h => hFc q h) hFc (fun q _ h => hFc q h) (fun E ce q9 u t H1 locs1 ht hvm hw hB hz1 hk1 hS1 hce hcv hcl => ?_) (fun r u t H1 locs1 ht hvm hw hB hz1 hk1 hS1 => ?_)
  · obtain ⟨E', u'⟩ := u
    obtain ⟨hEE, hP1, hD1⟩ := hB
    dsimp only at hEE hP1 hD1
    subst hEE
    rw [ht] at hP1
    obtain ⟨hP2, hD2⟩ := wm_jW hP hD mk hC (hfx _ _ hw) hk1 hFc hP1 hD1
    exact kx E u' H1 locs1 q9 ce hw hP2 hD2 hS1 hce hcv hcl
  · obtain ⟨hP1, hD1⟩ := hB
    rw [ht] at hP1
    obtain ⟨hP2, hD2⟩ := wm_jW hP hD mk hC (hf _ _ hw) hk1 hFc hP1 hD1
    exact kk r u H1 locs1 hw hP2 hD2 hS1
theorem wq_xlQW {post : Int64 → va_W → Prop} {px : String × va_W → Prop} (hr : vx_Run p l e R s m args below meth c H locs cells slots mc ms (F0 m pc ls st0) rest (va_Ql post (wq_B D (va_A wc H.size)) (va_A wc H.size) a) (vx_X px (wq_BX D (va_A wc H.size)) (va_A wc H.size)) (va_A wc H.size)) (hS : va_S A0 H0 H locs) (hA : ∀ q, H0.size ≤ q → A0 q) (hP : va_P D vwCl (ws ++ pl) H) (hD : va_D A0 (ws ++ pl)) (mk : List Bool) (hC : wsel mk ws = wc.map some) (hf : ∀ (r : Int64) (u : va_W), post r u → wfs wc u = wc.map Prod.fst) (hfx : ∀ (E : String) (u : va_W), px (E, u) → wfs wc u = wc.map Prod.fst)
    (kx : ∀ (E : String) (u : va_W) (H1 : Heap) (locs1 : List Loc) (q9 : Addr) (ce : Cell), px (E, u) → va_P D vwCl (wput mk ws u ++ pl) H1 → va_D A0 (wput mk ws u ++ pl) → va_S A0 H0 H1 locs1 → H1[q9]? = some ce → ce.vm = .none → s.vm.findClass E = some ce.cls → vx_W p l e R s m args below meth c H1 locs1 (cells + mc) (slots + ms) Q (F0 m pc ls rest) q9)
    (kk : ∀ (r : Int64) (u : va_W) (H1 : Heap) (locs1 : List Loc), post r u → va_P D vwCl (wput mk ws u ++ pl) H1 → va_D A0 (wput mk ws u ++ pl) → va_S A0 H0 H1 locs1 → W p l e R s m args below meth c H1 locs1 (cells + mc) (slots + ms) Q (F0 m (pc + 3) ls (.long r :: rest))) : W p l e R s m args below meth c H locs cells slots Q (F0 m pc ls st0) := by
  have hFc := va_free (wc := wc) (vD_left hD) hS hA (midx mk) ((midx_sel mk ws).trans hC)
  refine vx_calll hr hS (fun q _ h => hFc q h) hFc (fun q _ h => hFc q h) (fun E ce q9 u t H1 locs1 ht hvm hw hB hz1 hk1 hS1 hce hcv hcl => ?_) (fun r u t H1 locs1 ht hvm hw hB hz1 hk1 hS1 => ?_)
  · obtain ⟨E', u'⟩ := u
    obtain ⟨hEE, hP1, hD1⟩ := hB
    dsimp only at hEE hP1 hD1
    subst hEE
    rw [ht] at hP1
    obtain ⟨hP2, hD2⟩ := wm_jQ hP hD mk hC (hfx _ _ hw) hk1 hFc hP1 hD1
    exact kx E u' H1 locs1 q9 ce hw hP2 hD2 hS1 hce hcv hcl
  · obtain ⟨hP1, hD1⟩ := hB
    rw [ht] at hP1
    obtain ⟨hP2, hD2⟩ := wm_jQ hP hD mk hC (hf _ _ hw) hk1 hFc hP1 hD1
    exact kk r u H1 locs1 hw hP2 hD2 hS1
theorem wq_xlPW {post : Int64 → va_W → Prop} {px : String × va_W → Prop} {ux : va_W} (hr : vx_Run p l e R s m args below meth c H locs cells slots mc ms (F0 m pc ls st0) rest (va_Ql post (wq_B D (va_A (wc ++ pl) H.size)) (va_A (wc ++ pl) H.size) a) (vx_X px (wq_BX D (va_A (wc ++ pl) H.size)) (va_A (wc ++ pl) H.size)) (va_A (wc ++ pl) H.size)) (hS : va_S A0 H0 H locs) (hA : ∀ q, H0.size ≤ q → A0 q) (hP : va_P D vwCl (ws ++ pl) H) (hD : va_D A0 (ws ++ pl)) (mk : List Bool) (hC : wsel mk ws = wc.map some) (hf : wfs wc ux = wc.map Prod.fst) (hu : ∀ (r : Int64) (u : va_W), post r u → u = ux ++ pl) (hx9 : ∀ (E : String) (u : va_W), px (E, u) → u = ux ++ pl)
    (kx : ∀ (E : String) (H1 : Heap) (locs1 : List Loc) (q9 : Addr) (ce : Cell), px (E, (ux ++ pl)) → va_P D vwCl (wput mk ws ux ++ pl) H1 → va_D A0 (wput mk ws ux ++ pl) → va_S A0 H0 H1 locs1 → H1[q9]? = some ce → ce.vm = .none → s.vm.findClass E = some ce.cls → vx_W p l e R s m args below meth c H1 locs1 (cells + mc) (slots + ms) Q (F0 m pc ls rest) q9)
    (kk : ∀ (r : Int64) (H1 : Heap) (locs1 : List Loc), post r (ux ++ pl) → va_P D vwCl (wput mk ws ux ++ pl) H1 → va_D A0 (wput mk ws ux ++ pl) → va_S A0 H0 H1 locs1 → W p l e R s m args below meth c H1 locs1 (cells + mc) (slots + ms) Q (F0 m (pc + 3) ls (.long r :: rest))) : W p l e R s m args below meth c H locs cells slots Q (F0 m pc ls st0) := by
  have hFc := va_freeP (cx := wc) hD hS hA (midx mk) ((midx_sel mk ws).trans hC)
  refine vx_calll hr hS (fun q _ h => hFc q h) hFc (fun q _ h => hFc q h) (fun E ce q9 u t H1 locs1 ht hvm hw hB hz1 hk1 hS1 hce hcv hcl => ?_) (fun r u t H1 locs1 ht hvm hw hB hz1 hk1 hS1 => ?_)
  · obtain ⟨E', u'⟩ := u
    obtain ⟨hEE, hP1, hD1⟩ := hB
    dsimp only at hEE hP1 hD1
    subst hEE
    rw [ht] at hP1
    obtain rfl := hx9 _ _ hw
    obtain ⟨hP2, hD2⟩ := wm_jP hP hD mk hC hf hk1 hFc hP1 hD1
    exact kx E H1 locs1 q9 ce hw hP2 hD2 hS1 hce hcv hcl
  · obtain rfl := hu _ _ hw
    obtain ⟨hP1, hD1⟩ := hB
    rw [ht] at hP1
    obtain ⟨hP2, hD2⟩ := wm_jP hP hD mk hC hf hk1 hFc hP1 hD1
    exact kk r H1 locs1 hw hP2 hD2 hS1
theorem wq_xfW {post : UInt32 → va_W → Prop} {px : String × va_W → Prop} (hr : vx_Run p l e R s m args below meth c H locs cells slots mc ms (F0 m pc ls st0) rest (va_Qf post (wq_B D (va_A wc H.size)) (va_A wc H.size) a) (vx_X px (wq_BX D (va_A wc H.size)) (va_A wc H.size)) (va_A wc H.size)) (hS : va_S A0 H0 H locs) (hA : ∀ q, H0.size ≤ q → A0 q) (hP : va_P D vwCl ws H) (hD : va_D A0 ws) (mk : List Bool) (hC : wsel mk ws = wc.map some) (hf : ∀ (r : UInt32) (u : va_W), post r u → wfs wc u = wc.map Prod.fst) (hfx : ∀ (E : String) (u : va_W), px (E, u) → wfs wc u = wc.map Prod.fst)
    (kx : ∀ (E : String) (u : va_W) (H1 : Heap) (locs1 : List Loc) (q9 : Addr) (ce : Cell), px (E, u) → va_P D vwCl (wput mk ws u) H1 → va_D A0 (wput mk ws u) → va_S A0 H0 H1 locs1 → H1[q9]? = some ce → ce.vm = .none → s.vm.findClass E = some ce.cls → vx_W p l e R s m args below meth c H1 locs1 (cells + mc) (slots + ms) Q (F0 m pc ls rest) q9)
    (kk : ∀ (r : UInt32) (u : va_W) (H1 : Heap) (locs1 : List Loc), post r u → va_P D vwCl (wput mk ws u) H1 → va_D A0 (wput mk ws u) → va_S A0 H0 H1 locs1 → W p l e R s m args below meth c H1 locs1 (cells + mc) (slots + ms) Q (F0 m (pc + 3) ls (.float r :: rest))) : W p l e R s m args below meth c H locs cells slots Q (F0 m pc ls st0) := by
  have hFc := va_free (wc := wc) hD hS hA (midx mk) ((midx_sel mk ws).trans hC)
  refine vx_callf hr hS (fun q _ h => hFc q h) hFc (fun q _ h => hFc q h) (fun E ce q9 u t H1 locs1 ht hvm hw hB hz1 hk1 hS1 hce hcv hcl => ?_) (fun r u t H1 locs1 ht hvm hw hB hz1 hk1 hS1 => ?_)
  · obtain ⟨E', u'⟩ := u
    obtain ⟨hEE, hP1, hD1⟩ := hB
    dsimp only at hEE hP1 hD1
    subst hEE
    rw [ht] at hP1
    obtain ⟨hP2, hD2⟩ := wm_jW hP hD mk hC (hfx _ _ hw) hk1 hFc hP1 hD1
    exact kx E u' H1 locs1 q9 ce hw hP2 hD2 hS1 hce hcv hcl
  · obtain ⟨hP1, hD1⟩ := hB
    rw [ht] at hP1
    obtain ⟨hP2, hD2⟩ := wm_jW hP hD mk hC (hf _ _ hw) hk1 hFc hP1 hD1
    exact kk r u H1 locs1 hw hP2 hD2 hS1
theorem wq_xfQW {post : UInt32 → va_W → Prop} {px : String × va_W → Prop} (hr : vx_Run p l e R s m args below meth c H locs cells slots mc ms (F0 m pc ls st0) rest (va_Qf post (wq_B D (va_A wc H.size)) (va_A wc H.size) a) (vx_X px (wq_BX D (va_A wc H.size)) (va_A wc H.size)) (va_A wc H.size)) (hS : va_S A0 H0 H locs) (hA : ∀ q, H0.size ≤ q → A0 q) (hP : va_P D vwCl (ws ++ pl) H) (hD : va_D A0 (ws ++ pl)) (mk : List Bool) (hC : wsel mk ws = wc.map some) (hf : ∀ (r : UInt32) (u : va_W), post r u → wfs wc u = wc.map Prod.fst) (hfx : ∀ (E : String) (u : va_W), px (E, u) → wfs wc u = wc.map Prod.fst)
    (kx : ∀ (E : String) (u : va_W) (H1 : Heap) (locs1 : List Loc) (q9 : Addr) (ce : Cell), px (E, u) → va_P D vwCl (wput mk ws u ++ pl) H1 → va_D A0 (wput mk ws u ++ pl) → va_S A0 H0 H1 locs1 → H1[q9]? = some ce → ce.vm = .none → s.vm.findClass E = some ce.cls → vx_W p l e R s m args below meth c H1 locs1 (cells + mc) (slots + ms) Q (F0 m pc ls rest) q9)
    (kk : ∀ (r : UInt32) (u : va_W) (H1 : Heap) (locs1 : List Loc), post r u → va_P D vwCl (wput mk ws u ++ pl) H1 → va_D A0 (wput mk ws u ++ pl) → va_S A0 H0 H1 locs1 → W p l e R s m args below meth c H1 locs1 (cells + mc) (slots + ms) Q (F0 m (pc + 3) ls (.float r :: rest))) : W p l e R s m args below meth c H locs cells slots Q (F0 m pc ls st0) := by
  have hFc := va_free (wc := wc) (vD_left hD) hS hA (midx mk) ((midx_sel mk ws).trans hC)
  refine vx_callf hr hS (fun q _ h => hFc q h) hFc (fun q _ h => hFc q h) (fun E ce q9 u t H1 locs1 ht hvm hw hB hz1 hk1 hS1 hce hcv hcl => ?_) (fun r u t H1 locs1 ht hvm hw hB hz1 hk1 hS1 => ?_)
  · obtain ⟨E', u'⟩ := u
    obtain ⟨hEE, hP1, hD1⟩ := hB
    dsimp only at hEE hP1 hD1
    subst hEE
    rw [ht] at hP1
    obtain ⟨hP2, hD2⟩ := wm_jQ hP hD mk hC (hfx _ _ hw) hk1 hFc hP1 hD1
    exact kx E u' H1 locs1 q9 ce hw hP2 hD2 hS1 hce hcv hcl
  · obtain ⟨hP1, hD1⟩ := hB
    rw [ht] at hP1
    obtain ⟨hP2, hD2⟩ := wm_jQ hP hD mk hC (hf _ _ hw) hk1 hFc hP1 hD1
    exact kk r u H1 locs1 hw hP2 hD2 hS1
theorem wq_xfPW {post : UInt32 → va_W → Prop} {px : String × va_W → Prop} {ux : va_W} (hr : vx_Run p l e R s m args below meth c H locs cells slots mc ms (F0 m pc ls st0) rest (va_Qf post (wq_B D (va_A (wc ++ pl) H.size)) (va_A (wc ++ pl) H.size) a) (vx_X px (wq_BX D (va_A (wc ++ pl) H.size)) (va_A (wc ++ pl) H.size)) (va_A (wc ++ pl) H.size)) (hS : va_S A0 H0 H locs) (hA : ∀ q, H0.size ≤ q → A0 q) (hP : va_P D vwCl (ws ++ pl) H) (hD : va_D A0 (ws ++ pl)) (mk : List Bool) (hC : wsel mk ws = wc.map some) (hf : wfs wc ux = wc.map Prod.fst) (hu : ∀ (r : UInt32) (u : va_W), post r u → u = ux ++ pl) (hx9 : ∀ (E : String) (u : va_W), px (E, u) → u = ux ++ pl)
    (kx : ∀ (E : String) (H1 : Heap) (locs1 : List Loc) (q9 : Addr) (ce : Cell), px (E, (ux ++ pl)) → va_P D vwCl (wput mk ws ux ++ pl) H1 → va_D A0 (wput mk ws ux ++ pl) → va_S A0 H0 H1 locs1 → H1[q9]? = some ce → ce.vm = .none → s.vm.findClass E = some ce.cls → vx_W p l e R s m args below meth c H1 locs1 (cells + mc) (slots + ms) Q (F0 m pc ls rest) q9)
    (kk : ∀ (r : UInt32) (H1 : Heap) (locs1 : List Loc), post r (ux ++ pl) → va_P D vwCl (wput mk ws ux ++ pl) H1 → va_D A0 (wput mk ws ux ++ pl) → va_S A0 H0 H1 locs1 → W p l e R s m args below meth c H1 locs1 (cells + mc) (slots + ms) Q (F0 m (pc + 3) ls (.float r :: rest))) : W p l e R s m args below meth c H locs cells slots Q (F0 m pc ls st0) := by
  have hFc := va_freeP (cx := wc) hD hS hA (midx mk) ((midx_sel mk ws).trans hC)
  refine vx_callf hr hS (fun q _ h => hFc q h) hFc (fun q _ h => hFc q h) (fun E ce q9 u t H1 locs1 ht hvm hw hB hz1 hk1 hS1 hce hcv hcl => ?_) (fun r u t H1 locs1 ht hvm hw hB hz1 hk1 hS1 => ?_)
  · obtain ⟨E', u'⟩ := u
    obtain ⟨hEE, hP1, hD1⟩ := hB
    dsimp only at hEE hP1 hD1
    subst hEE
    rw [ht] at hP1
    obtain rfl := hx9 _ _ hw
    obtain ⟨hP2, hD2⟩ := wm_jP hP hD mk hC hf hk1 hFc hP1 hD1
    exact kx E H1 locs1 q9 ce hw hP2 hD2 hS1 hce hcv hcl
  · obtain rfl := hu _ _ hw
    obtain ⟨hP1, hD1⟩ := hB
    rw [ht] at hP1
    obtain ⟨hP2, hD2⟩ := wm_jP hP hD mk hC hf hk1 hFc hP1 hD1
    exact kk r H1 locs1 hw hP2 hD2 hS1
theorem wq_xdW {post : UInt64 → va_W → Prop} {px : String × va_W → Prop} (hr : vx_Run p l e R s m args below meth c H locs cells slots mc ms (F0 m pc ls st0) rest (va_Qd post (wq_B D (va_A wc H.size)) (va_A wc H.size) a) (vx_X px (wq_BX D (va_A wc H.size)) (va_A wc H.size)) (va_A wc H.size)) (hS : va_S A0 H0 H locs) (hA : ∀ q, H0.size ≤ q → A0 q) (hP : va_P D vwCl ws H) (hD : va_D A0 ws) (mk : List Bool) (hC : wsel mk ws = wc.map some) (hf : ∀ (r : UInt64) (u : va_W), post r u → wfs wc u = wc.map Prod.fst) (hfx : ∀ (E : String) (u : va_W), px (E, u) → wfs wc u = wc.map Prod.fst)
    (kx : ∀ (E : String) (u : va_W) (H1 : Heap) (locs1 : List Loc) (q9 : Addr) (ce : Cell), px (E, u) → va_P D vwCl (wput mk ws u) H1 → va_D A0 (wput mk ws u) → va_S A0 H0 H1 locs1 → H1[q9]? = some ce → ce.vm = .none → s.vm.findClass E = some ce.cls → vx_W p l e R s m args below meth c H1 locs1 (cells + mc) (slots + ms) Q (F0 m pc ls rest) q9)
    (kk : ∀ (r : UInt64) (u : va_W) (H1 : Heap) (locs1 : List Loc), post r u → va_P D vwCl (wput mk ws u) H1 → va_D A0 (wput mk ws u) → va_S A0 H0 H1 locs1 → W p l e R s m args below meth c H1 locs1 (cells + mc) (slots + ms) Q (F0 m (pc + 3) ls (.double r :: rest))) : W p l e R s m args below meth c H locs cells slots Q (F0 m pc ls st0) := by
  have hFc := va_free (wc := wc) hD hS hA (midx mk) ((midx_sel mk ws).trans hC)
  refine vx_calld hr hS (fun q _ h => hFc q h) hFc (fun q _ h => hFc q h) (fun E ce q9 u t H1 locs1 ht hvm hw hB hz1 hk1 hS1 hce hcv hcl => ?_) (fun r u t H1 locs1 ht hvm hw hB hz1 hk1 hS1 => ?_)
  · obtain ⟨E', u'⟩ := u
    obtain ⟨hEE, hP1, hD1⟩ := hB
    dsimp only at hEE hP1 hD1
    subst hEE
    rw [ht] at hP1
    obtain ⟨hP2, hD2⟩ := wm_jW hP hD mk hC (hfx _ _ hw) hk1 hFc hP1 hD1
    exact kx E u' H1 locs1 q9 ce hw hP2 hD2 hS1 hce hcv hcl
  · obtain ⟨hP1, hD1⟩ := hB
    rw [ht] at hP1
    obtain ⟨hP2, hD2⟩ := wm_jW hP hD mk hC (hf _ _ hw) hk1 hFc hP1 hD1
    exact kk r u H1 locs1 hw hP2 hD2 hS1
theorem wq_xdQW {post : UInt64 → va_W → Prop} {px : String × va_W → Prop} (hr : vx_Run p l e R s m args below meth c H locs cells slots mc ms (F0 m pc ls st0) rest (va_Qd post (wq_B D (va_A wc H.size)) (va_A wc H.size) a) (vx_X px (wq_BX D (va_A wc H.size)) (va_A wc H.size)) (va_A wc H.size)) (hS : va_S A0 H0 H locs) (hA : ∀ q, H0.size ≤ q → A0 q) (hP : va_P D vwCl (ws ++ pl) H) (hD : va_D A0 (ws ++ pl)) (mk : List Bool) (hC : wsel mk ws = wc.map some) (hf : ∀ (r : UInt64) (u : va_W), post r u → wfs wc u = wc.map Prod.fst) (hfx : ∀ (E : String) (u : va_W), px (E, u) → wfs wc u = wc.map Prod.fst)
    (kx : ∀ (E : String) (u : va_W) (H1 : Heap) (locs1 : List Loc) (q9 : Addr) (ce : Cell), px (E, u) → va_P D vwCl (wput mk ws u ++ pl) H1 → va_D A0 (wput mk ws u ++ pl) → va_S A0 H0 H1 locs1 → H1[q9]? = some ce → ce.vm = .none → s.vm.findClass E = some ce.cls → vx_W p l e R s m args below meth c H1 locs1 (cells + mc) (slots + ms) Q (F0 m pc ls rest) q9)
    (kk : ∀ (r : UInt64) (u : va_W) (H1 : Heap) (locs1 : List Loc), post r u → va_P D vwCl (wput mk ws u ++ pl) H1 → va_D A0 (wput mk ws u ++ pl) → va_S A0 H0 H1 locs1 → W p l e R s m args below meth c H1 locs1 (cells + mc) (slots + ms) Q (F0 m (pc + 3) ls (.double r :: rest))) : W p l e R s m args below meth c H locs cells slots Q (F0 m pc ls st0) := by
  have hFc := va_free (wc := wc) (vD_left hD) hS hA (midx mk) ((midx_sel mk ws).trans hC)
  refine vx_calld hr hS (fun q _ h => hFc q h) hFc (fun q _ h => hFc q h) (fun E ce q9 u t H1 locs1 ht hvm hw hB hz1 hk1 hS1 hce hcv hcl => ?_) (fun r u t H1 locs1 ht hvm hw hB hz1 hk1 hS1 => ?_)
  · obtain ⟨E', u'⟩ := u
    obtain ⟨hEE, hP1, hD1⟩ := hB
    dsimp only at hEE hP1 hD1
    subst hEE
    rw [ht] at hP1
    obtain ⟨hP2, hD2⟩ := wm_jQ hP hD mk hC (hfx _ _ hw) hk1 hFc hP1 hD1
    exact kx E u' H1 locs1 q9 ce hw hP2 hD2 hS1 hce hcv hcl
  · obtain ⟨hP1, hD1⟩ := hB
    rw [ht] at hP1
    obtain ⟨hP2, hD2⟩ := wm_jQ hP hD mk hC (hf _ _ hw) hk1 hFc hP1 hD1
    exact kk r u H1 locs1 hw hP2 hD2 hS1
theorem wq_xdPW {post : UInt64 → va_W → Prop} {px : String × va_W → Prop} {ux : va_W} (hr : vx_Run p l e R s m args below meth c H locs cells slots mc ms (F0 m pc ls st0) rest (va_Qd post (wq_B D (va_A (wc ++ pl) H.size)) (va_A (wc ++ pl) H.size) a) (vx_X px (wq_BX D (va_A (wc ++ pl) H.size)) (va_A (wc ++ pl) H.size)) (va_A (wc ++ pl) H.size)) (hS : va_S A0 H0 H locs) (hA : ∀ q, H0.size ≤ q → A0 q) (hP : va_P D vwCl (ws ++ pl) H) (hD : va_D A0 (ws ++ pl)) (mk : List Bool) (hC : wsel mk ws = wc.map some) (hf : wfs wc ux = wc.map Prod.fst) (hu : ∀ (r : UInt64) (u : va_W), post r u → u = ux ++ pl) (hx9 : ∀ (E : String) (u : va_W), px (E, u) → u = ux ++ pl)
    (kx : ∀ (E : String) (H1 : Heap) (locs1 : List Loc) (q9 : Addr) (ce : Cell), px (E, (ux ++ pl)) → va_P D vwCl (wput mk ws ux ++ pl) H1 → va_D A0 (wput mk ws ux ++ pl) → va_S A0 H0 H1 locs1 → H1[q9]? = some ce → ce.vm = .none → s.vm.findClass E = some ce.cls → vx_W p l e R s m args below meth c H1 locs1 (cells + mc) (slots + ms) Q (F0 m pc ls rest) q9)
    (kk : ∀ (r : UInt64) (H1 : Heap) (locs1 : List Loc), post r (ux ++ pl) → va_P D vwCl (wput mk ws ux ++ pl) H1 → va_D A0 (wput mk ws ux ++ pl) → va_S A0 H0 H1 locs1 → W p l e R s m args below meth c H1 locs1 (cells + mc) (slots + ms) Q (F0 m (pc + 3) ls (.double r :: rest))) : W p l e R s m args below meth c H locs cells slots Q (F0 m pc ls st0) := by
  have hFc := va_freeP (cx := wc) hD hS hA (midx mk) ((midx_sel mk ws).trans hC)
  refine vx_calld hr hS (fun q _ h => hFc q h) hFc (fun q _ h => hFc q h) (fun E ce q9 u t H1 locs1 ht hvm hw hB hz1 hk1 hS1 hce hcv hcl => ?_) (fun r u t H1 locs1 ht hvm hw hB hz1 hk1 hS1 => ?_)
  · obtain ⟨E', u'⟩ := u
    obtain ⟨hEE, hP1, hD1⟩ := hB
    dsimp only at hEE hP1 hD1
    subst hEE
    rw [ht] at hP1
    obtain rfl := hx9 _ _ hw
    obtain ⟨hP2, hD2⟩ := wm_jP hP hD mk hC hf hk1 hFc hP1 hD1
    exact kx E H1 locs1 q9 ce hw hP2 hD2 hS1 hce hcv hcl
  · obtain rfl := hu _ _ hw
    obtain ⟨hP1, hD1⟩ := hB
    rw [ht] at hP1
    obtain ⟨hP2, hD2⟩ := wm_jP hP hD mk hC hf hk1 hFc hP1 hD1
    exact kk r H1 locs1 hw hP2 hD2 hS1
end WXW
