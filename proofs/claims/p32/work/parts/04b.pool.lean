/-! the pool of rules and literals (read only), and calls beside it -/
def pcR (p : pT) (a : Nat) : Nat × va_E := (a, .inr (10, [.int (pI p a 0), .int (pI p a 1), .int (pI p a 2), .int (pI p a 3), .int (pI p a 4), .int (pI p a 5), .int (pI p a 6), .ref (pA p a 0), .int (pI p a 8), .ref (pA p a 1), .int (pI p a 10)]))
def pcA (ty : Nat → ClassId) (p : pT) (a j n : Nat) : Nat × va_E := (pA p a j, .inl (ty 5, n, .inr (.inr (.inr (.inr (pF p a j))))))
def pcL (p : pT) (a : Nat) : Nat × va_E := (a, .inr (6, [.int (pI p a 0), .int (pI p a 1), .int (pI p a 2), .int (pI p a 3), .int (pI p a 4), .int (pI p a 5), .int (pI p a 6), .int (pI p a 7)]))
/-- a row of the law: eleven ints -/
def pcZ (ty : Nat → ClassId) (p : pT) (a : Nat) : Nat × va_E := (a, .inl (ty 0, 11, .inl (pI p a)))
def pw (ty : Nat → ClassId) (p : pT) : va_W := (pRA p).flatMap (fun a => [pcR p a, pcA ty p a 0 2, pcA ty p a 1 5]) ++ ((pLA p).map (pcL p) ++ (pZA p).map (pcZ ty p))
def pOK (p : pT) : Prop := ∀ a ∈ pRA p, ∀ (j i b : Nat), pF p a j i = some b → b ∈ pLA p
theorem pw_rule {ty : Nat → ClassId} {p : pT} {L : va_W} {a : Nat} (h : a ∈ pRA p) : pcR p a ∈ L ++ pw ty p := List.mem_append_right _ (List.mem_append_left _ (List.mem_flatMap.mpr ⟨a, h, List.mem_cons_self⟩))
theorem pw_heads {ty : Nat → ClassId} {p : pT} {L : va_W} {a : Nat} (h : a ∈ pRA p) : pcA ty p a 0 2 ∈ L ++ pw ty p := List.mem_append_right _ (List.mem_append_left _ (List.mem_flatMap.mpr ⟨a, h, List.mem_cons_of_mem _ List.mem_cons_self⟩))
theorem pw_conds {ty : Nat → ClassId} {p : pT} {L : va_W} {a : Nat} (h : a ∈ pRA p) : pcA ty p a 1 5 ∈ L ++ pw ty p := List.mem_append_right _ (List.mem_append_left _ (List.mem_flatMap.mpr ⟨a, h, List.mem_cons_of_mem _ (List.mem_cons_of_mem _ List.mem_cons_self)⟩))
theorem pw_lit {ty : Nat → ClassId} {p : pT} {L : va_W} {a : Nat} (h : a ∈ pLA p) : pcL p a ∈ L ++ pw ty p := List.mem_append_right _ (List.mem_append_right _ (List.mem_append_left _ (List.mem_map_of_mem h)))
theorem pw_row {ty : Nat → ClassId} {p : pT} {L : va_W} {a : Nat} (h : a ∈ pZA p) : pcZ ty p a ∈ L ++ pw ty p := List.mem_append_right _ (List.mem_append_right _ (List.mem_append_right _ (List.mem_map_of_mem h)))
theorem gE_left {X t : va_W} {i : Nat} {q : Nat × va_E} (h : X[i]? = some q) : (X ++ t)[i]? = some q := by
  have hl : i < X.length := (List.getElem?_eq_some_iff.mp h).1
  rw [List.getElem?_append_left hl]
  exact h
theorem gE_right {X t : va_W} {j : Nat} {q : Nat × va_E} (h : t[j]? = some q) : (X ++ t)[X.length + j]? = some q := by
  rw [List.getElem?_append_right (Nat.le_add_right _ _), Nat.add_sub_cancel_left]
  exact h
theorem vP_left {D : va_G} {cl : List vw_C} {X t : va_W} {H : Heap} (h : va_P D cl (X ++ t) H) : va_P D cl X H := fun k q hk => h k q (gE_left hk)
theorem vP_right {D : va_G} {cl : List vw_C} {X t : va_W} {H : Heap} (h : va_P D cl (X ++ t) H) : va_P D cl t H := fun k q hk => h _ q (gE_right hk)
theorem vD_left {A : Nat → Prop} {X t : va_W} (h : va_D A (X ++ t)) : va_D A X := ⟨fun i j p q hi hj => h.1 i j p q (gE_left hi) (gE_left hj), fun k q hk => h.2 k q (gE_left hk)⟩
theorem vD_right {A : Nat → Prop} {X t : va_W} (h : va_D A (X ++ t)) : va_D A t := ⟨fun i j p q hi hj e => Nat.add_left_cancel (h.1 _ _ p q (gE_right hi) (gE_right hj) e), fun k q hk => h.2 _ q (gE_right hk)⟩
theorem vD_apart {A : Nat → Prop} {X t : va_W} (h : va_D A (X ++ t)) (i j : Nat) (p q : Nat × va_E) (hi : X[i]? = some p) (hj : t[j]? = some q) : p.1 ≠ q.1 := by
  intro e
  have h1 := h.1 _ _ p q (gE_left hi) (gE_right hj) e
  have hl : i < X.length := (List.getElem?_eq_some_iff.mp hi).1
  omega
theorem tP_sub {D : va_G} {cl : List vw_C} {L L' t : va_W} {H : Heap} (h : va_P D cl (L ++ t) H) (P : List Nat) (hs : P.map (fun i => L[i]?) = L'.map some) : va_P D cl (L' ++ t) H := by
  refine va_P.app (fun k q hk => ?_) (vP_right h)
  obtain ⟨i, -, hi⟩ := va_in_of P hs hk
  exact vP_left h i q hi
theorem tD_sub {A : Nat → Prop} {L L' t : va_W} (h : va_D A (L ++ t)) (P : List Nat) (hn : va_nd P = true) (hs : P.map (fun i => L[i]?) = L'.map some) : va_D A (L' ++ t) := by
  refine va_D.app ((vD_left h).sub P hn hs) (vD_right h) (fun i j p q hi hj => ?_)
  obtain ⟨i', -, hi'⟩ := va_in_of P hs hi
  exact vD_apart h i' j p q hi' hj
theorem wq_preSP {D : va_G} {ty : Nat → ClassId} {td mi : Nat} {X cx pl : va_W} {s : State} {H : Heap} {A : Nat → Prop} {locs : List Loc} {As : List Value} (hP : va_P D vwCl (X ++ pl) H) (hD : va_D A (X ++ pl)) (hK : va_K D vwCl (wq_ty ty) s) (hE : wq_E A td mi s s.heap) (hS : va_S A s.heap H locs) (hA : ∀ q, s.heap.size ≤ q → A q) (isC : List Nat) (hC : isC.map (fun i => X[i]?) = cx.map some) (hn : va_nd isC = true) : PreS s H (va_Pc As (wq_P D ty td mi (cx ++ pl) H.size)) As := by
  refine ⟨wq_blind, fun U hU hW => ⟨rfl, by rw [hU], ?_, va_K.moved hW.alike hK, (tD_sub hD isC hn hC).weaken (fun _ _ _ _ => trivial), ?_⟩⟩
  · rw [hU]
    exact tP_sub hP isC hC
  · rw [hU]
    exact hE.go (va_freeP (cx := cx) hD hS hA isC hC) hW hS
/-- the world beside the law's script: L ints xs at the cell b -/
def wq_PS (D : va_G) (ty : Nat → ClassId) (td mi : Nat) (ws : va_W) (sz b L : Nat) (xs : Nat → Int32) (U : State) : Prop := wq_P D ty td mi ws sz U ∧ va_X b L xs U U.heap ∧ b < sz ∧ ¬ va_A ws sz b
theorem wq_blindS {D : va_G} {ty : Nat → ClassId} {td mi : Nat} {ws : va_W} {sz b L : Nat} {xs : Nat → Int32} {av : List Value} : FrameBlind (va_Pc av (wq_PS D ty td mi ws sz b L xs)) := fun a U g mk q => by
  obtain ⟨q0, ⟨q1, qP, qK, qD, qE⟩, q2, q3, q4⟩ := q
  exact ⟨q0, ⟨q1, qP, va_K.moved (u := U) (U := U.calling g mk a) (Vm.Alike.refl U.vm) qK, qD, qE.same (U := U.calling g mk a) rfl⟩, va_X.moved (u := U) (U := U.calling g mk a) (Vm.Alike.refl U.vm) q2, q3, q4⟩
theorem wq_preSS {D : va_G} {ty : Nat → ClassId} {td mi b L : Nat} {xs : Nat → Int32} {wc : va_W} {s : State} {H : Heap} {A : Nat → Prop} {locs : List Loc} {As : List Value} (hp : PreS s H (va_Pc As (wq_P D ty td mi wc H.size)) As) (hX : va_X b L xs s s.heap) (hbl : b < s.heap.size) (hbA : ¬ A b) (hS : va_S A s.heap H locs) (hF : ∀ q, va_A wc H.size q → A q) : PreS s H (va_Pc As (wq_PS D ty td mi wc H.size b L xs)) As :=
  ⟨wq_blindS, fun U hU hW => ⟨(hp.2 U hU hW).1, (hp.2 U hU hW).2, (va_X.moved hW.alike hX).kept (by rw [hU]; exact hS.2.1 b hbl hbA), Nat.lt_of_lt_of_le hbl hS.1, fun h => hbA (hF b h)⟩⟩
/-- an answer that is null or a cell, as a value -/
def wq_Qr {S : Type} (post : Value → S → Prop) (B : S → State → Prop) (A : Nat → Prop) : Array Value → State → Outcome → State → Prop := fun _ st oc t => (∃ (r : Value) (u : S), oc = .returned (some r) ∧ post r u ∧ B u t) ∧ va_F A st t
section WQP
variable {p : Program} {l : Launch} {e : Env} {R : Room} {s : State} {m : MethodId} {args : Array Value} {below : List Frame} {meth : Method} {c : Code} {H : Heap} {locs : List Loc} {cells slots : Nat} {Q : State → Prop}
variable {cc : ByteArray} {pc : Nat} {ls : Array Slot} {rest st0 : List Value} {a : Array Value} {A0 : Nat → Prop} {H0 : Heap} {mc ms : Nat} {D : va_G} {ws wc wr : va_W}
variable {pl : va_W}
theorem wq_callr {S : Type} {A1 : Nat → Prop} {free : Addr → Prop} {post : Value → S → Prop} {B : S → State → Prop} (hr : va_Run p l e R s m args below meth c H locs cells slots mc ms (F0 m pc ls st0) rest (wq_Qr post B A1 a) free) (hS : va_S A0 H0 H locs) (hA : ∀ q, q < H.size → A1 q → A0 q) (hf : ∀ q, free q → A0 q)
    (kk : ∀ (r : Value) (u : S) (t : State) (H1 : Heap) (locs1 : List Loc), t.heap = H1 → s.vm.Alike t.vm → post r u → B u t → H.size ≤ H1.size → (∀ q : Nat, q < H.size → ¬ A1 q → H1[q]? = H[q]?) → va_S A0 H0 H1 locs1 → W p l e R s m args below meth c H1 locs1 (cells + mc) (slots + ms) Q (F0 m (pc + 3) ls (r :: rest))) : W p l e R s m args below meth c H locs cells slots Q (F0 m pc ls st0) := by
  intro T hT X
  obtain ⟨v, st₀, t, T', L, h0, X', hL, e1, e2, ⟨⟨r, u, hv, hp, hb⟩, hz, hk⟩, st⟩ := hr T hT X
  cases hv
  rw [h0] at hz hk
  obtain ⟨t2, a1, b1⟩ := kk r u t T'.heap (locs ++ L) e1.symm (by rw [← e2]; exact X'.warmed.alike) hp hb (by rw [e1]; exact hz) (fun q h1 h2 => by rw [e1]; exact hk q h1 h2)
    ⟨Nat.le_trans hS.1 (by rw [e1]; exact hz), fun q h1 h2 => by rw [e1, hk q (Nat.lt_of_lt_of_le h1 hS.1) (fun z => h2 (hA q (Nat.lt_of_lt_of_le h1 hS.1) z))]; exact hS.2.1 q h1 h2, fun q hq => by
      rcases List.mem_append.mp hq with h | h
      · exact hS.2.2 q h
      · exact hf _ (hL q h)⟩ T' rfl X'
  exact ⟨t2, st t2 a1, b1⟩
theorem wq_r {post : Value → va_W → Prop} (hr : va_Run p l e R s m args below meth c H locs cells slots mc ms (F0 m pc ls st0) rest (wq_Qr post (wq_B D (va_A wc H.size)) (va_A wc H.size) a) (va_A wc H.size)) (hS : va_S A0 H0 H locs) (hA : ∀ q, H0.size ≤ q → A0 q) (hP : va_P D vwCl ws H) (hD : va_D A0 ws) (isC isR : List Nat) (hC : isC.map (fun i => ws[i]?) = wc.map some) (hR : isR.map (fun i => ws[i]?) = wr.map some) (hn : va_nd isR = true) (hdis : ∀ i ∈ isR, i ∉ isC)
    (kk : ∀ (r : Value) (u : va_W) (H1 : Heap) (locs1 : List Loc), post r u → va_P D vwCl (wr ++ u) H1 → va_D A0 (wr ++ u) → va_S A0 H0 H1 locs1 → W p l e R s m args below meth c H1 locs1 (cells + mc) (slots + ms) Q (F0 m (pc + 3) ls (r :: rest))) : W p l e R s m args below meth c H locs cells slots Q (F0 m pc ls st0) := by
  have hFc := va_free (wc := wc) hD hS hA isC hC
  refine wq_callr hr hS (fun q _ h => hFc q h) hFc (fun r u t H1 locs1 ht hvm hw hB hz1 hk1 hS1 => ?_)
  obtain ⟨hP1, hD1⟩ := hB
  rw [ht] at hP1
  obtain ⟨hP2, hD2⟩ := va_join (wr := wr) (w1 := u) hP hD isC isR hC hR hn hdis hk1 hFc hP1 hD1
  exact kk r u H1 locs1 hw hP2 hD2 hS1
theorem wq_vQ {post : va_W → Prop} (hr : va_Run p l e R s m args below meth c H locs cells slots mc ms (F0 m pc ls st0) rest (va_Qv post (wq_B D (va_A wc H.size)) (va_A wc H.size) a) (va_A wc H.size)) (hS : va_S A0 H0 H locs) (hA : ∀ q, H0.size ≤ q → A0 q) (hP : va_P D vwCl (ws ++ pl) H) (hD : va_D A0 (ws ++ pl)) (isC isR : List Nat) (hC : isC.map (fun i => ws[i]?) = wc.map some) (hR : isR.map (fun i => ws[i]?) = wr.map some) (hn : va_nd isR = true) (hdis : ∀ i ∈ isR, i ∉ isC)
    (kk : ∀ (u : va_W) (H1 : Heap) (locs1 : List Loc), post u → va_P D vwCl ((wr ++ u) ++ pl) H1 → va_D A0 ((wr ++ u) ++ pl) → va_S A0 H0 H1 locs1 → W p l e R s m args below meth c H1 locs1 (cells + mc) (slots + ms) Q (F0 m (pc + 3) ls rest)) : W p l e R s m args below meth c H locs cells slots Q (F0 m pc ls st0) := by
  have hFc := va_free (wc := wc) (vD_left hD) hS hA isC hC
  refine va_callv hr hS (fun q _ h => hFc q h) hFc (fun u t H1 locs1 ht hvm hw hB hz1 hk1 hS1 => ?_)
  obtain ⟨hP1, hD1⟩ := hB
  rw [ht] at hP1
  obtain ⟨hP2, hD2⟩ := va_joinQ (wr := wr) (w1 := u) hP hD isC isR hC hR hn hdis hk1 hFc hP1 hD1
  exact kk u H1 locs1 hw hP2 hD2 hS1
theorem wq_vP {post : va_W → Prop} (hr : va_Run p l e R s m args below meth c H locs cells slots mc ms (F0 m pc ls st0) rest (va_Qv post (wq_B D (va_A (wc ++ pl) H.size)) (va_A (wc ++ pl) H.size) a) (va_A (wc ++ pl) H.size)) (hS : va_S A0 H0 H locs) (hA : ∀ q, H0.size ≤ q → A0 q) (hP : va_P D vwCl (ws ++ pl) H) (hD : va_D A0 (ws ++ pl)) {ux : va_W} (isC isR : List Nat) (hC : isC.map (fun i => ws[i]?) = wc.map some) (hR : isR.map (fun i => ws[i]?) = wr.map some) (hn : va_nd isR = true) (hdis : ∀ i ∈ isR, i ∉ isC) (hu : ∀ u, post u → u = ux ++ pl)
    (kk : ∀ (H1 : Heap) (locs1 : List Loc), post (ux ++ pl) → va_P D vwCl ((wr ++ ux) ++ pl) H1 → va_D A0 ((wr ++ ux) ++ pl) → va_S A0 H0 H1 locs1 → W p l e R s m args below meth c H1 locs1 (cells + mc) (slots + ms) Q (F0 m (pc + 3) ls rest)) : W p l e R s m args below meth c H locs cells slots Q (F0 m pc ls st0) := by
  have hFc := va_freeP (cx := wc) hD hS hA isC hC
  refine va_callv hr hS (fun q _ h => hFc q h) hFc (fun u t H1 locs1 ht hvm hw hB hz1 hk1 hS1 => ?_)
  obtain rfl := hu _ hw
  obtain ⟨hP1, hD1⟩ := hB
  rw [ht] at hP1
  obtain ⟨hP2, hD2⟩ := va_joinP (wr := wr) (rx := ux) (pl1 := pl) hP hD isC isR hC hR hn hdis hk1 hFc hP1 hD1
  exact kk H1 locs1 hw hP2 hD2 hS1
theorem wq_iQ {post : Int32 → va_W → Prop} (hr : va_Run p l e R s m args below meth c H locs cells slots mc ms (F0 m pc ls st0) rest (va_Qi post (wq_B D (va_A wc H.size)) (va_A wc H.size) a) (va_A wc H.size)) (hS : va_S A0 H0 H locs) (hA : ∀ q, H0.size ≤ q → A0 q) (hP : va_P D vwCl (ws ++ pl) H) (hD : va_D A0 (ws ++ pl)) (isC isR : List Nat) (hC : isC.map (fun i => ws[i]?) = wc.map some) (hR : isR.map (fun i => ws[i]?) = wr.map some) (hn : va_nd isR = true) (hdis : ∀ i ∈ isR, i ∉ isC)
    (kk : ∀ (r : Int32) (u : va_W) (H1 : Heap) (locs1 : List Loc), post r u → va_P D vwCl ((wr ++ u) ++ pl) H1 → va_D A0 ((wr ++ u) ++ pl) → va_S A0 H0 H1 locs1 → W p l e R s m args below meth c H1 locs1 (cells + mc) (slots + ms) Q (F0 m (pc + 3) ls (.int r :: rest))) : W p l e R s m args below meth c H locs cells slots Q (F0 m pc ls st0) := by
  have hFc := va_free (wc := wc) (vD_left hD) hS hA isC hC
  refine va_calli hr hS (fun q _ h => hFc q h) hFc (fun r u t H1 locs1 ht hvm hw hB hz1 hk1 hS1 => ?_)
  obtain ⟨hP1, hD1⟩ := hB
  rw [ht] at hP1
  obtain ⟨hP2, hD2⟩ := va_joinQ (wr := wr) (w1 := u) hP hD isC isR hC hR hn hdis hk1 hFc hP1 hD1
  exact kk r u H1 locs1 hw hP2 hD2 hS1
theorem wq_iP {post : Int32 → va_W → Prop} (hr : va_Run p l e R s m args below meth c H locs cells slots mc ms (F0 m pc ls st0) rest (va_Qi post (wq_B D (va_A (wc ++ pl) H.size)) (va_A (wc ++ pl) H.size) a) (va_A (wc ++ pl) H.size)) (hS : va_S A0 H0 H locs) (hA : ∀ q, H0.size ≤ q → A0 q) (hP : va_P D vwCl (ws ++ pl) H) (hD : va_D A0 (ws ++ pl)) {ux : va_W} (isC isR : List Nat) (hC : isC.map (fun i => ws[i]?) = wc.map some) (hR : isR.map (fun i => ws[i]?) = wr.map some) (hn : va_nd isR = true) (hdis : ∀ i ∈ isR, i ∉ isC) (hu : ∀ r u, post r u → u = ux ++ pl)
    (kk : ∀ (r : Int32) (H1 : Heap) (locs1 : List Loc), post r (ux ++ pl) → va_P D vwCl ((wr ++ ux) ++ pl) H1 → va_D A0 ((wr ++ ux) ++ pl) → va_S A0 H0 H1 locs1 → W p l e R s m args below meth c H1 locs1 (cells + mc) (slots + ms) Q (F0 m (pc + 3) ls (.int r :: rest))) : W p l e R s m args below meth c H locs cells slots Q (F0 m pc ls st0) := by
  have hFc := va_freeP (cx := wc) hD hS hA isC hC
  refine va_calli hr hS (fun q _ h => hFc q h) hFc (fun r u t H1 locs1 ht hvm hw hB hz1 hk1 hS1 => ?_)
  obtain rfl := hu _ _ hw
  obtain ⟨hP1, hD1⟩ := hB
  rw [ht] at hP1
  obtain ⟨hP2, hD2⟩ := va_joinP (wr := wr) (rx := ux) (pl1 := pl) hP hD isC isR hC hR hn hdis hk1 hFc hP1 hD1
  exact kk r H1 locs1 hw hP2 hD2 hS1
theorem wq_lQ {post : Int64 → va_W → Prop} (hr : va_Run p l e R s m args below meth c H locs cells slots mc ms (F0 m pc ls st0) rest (va_Ql post (wq_B D (va_A wc H.size)) (va_A wc H.size) a) (va_A wc H.size)) (hS : va_S A0 H0 H locs) (hA : ∀ q, H0.size ≤ q → A0 q) (hP : va_P D vwCl (ws ++ pl) H) (hD : va_D A0 (ws ++ pl)) (isC isR : List Nat) (hC : isC.map (fun i => ws[i]?) = wc.map some) (hR : isR.map (fun i => ws[i]?) = wr.map some) (hn : va_nd isR = true) (hdis : ∀ i ∈ isR, i ∉ isC)
    (kk : ∀ (r : Int64) (u : va_W) (H1 : Heap) (locs1 : List Loc), post r u → va_P D vwCl ((wr ++ u) ++ pl) H1 → va_D A0 ((wr ++ u) ++ pl) → va_S A0 H0 H1 locs1 → W p l e R s m args below meth c H1 locs1 (cells + mc) (slots + ms) Q (F0 m (pc + 3) ls (.long r :: rest))) : W p l e R s m args below meth c H locs cells slots Q (F0 m pc ls st0) := by
  have hFc := va_free (wc := wc) (vD_left hD) hS hA isC hC
  refine va_calll hr hS (fun q _ h => hFc q h) hFc (fun r u t H1 locs1 ht hvm hw hB hz1 hk1 hS1 => ?_)
  obtain ⟨hP1, hD1⟩ := hB
  rw [ht] at hP1
  obtain ⟨hP2, hD2⟩ := va_joinQ (wr := wr) (w1 := u) hP hD isC isR hC hR hn hdis hk1 hFc hP1 hD1
  exact kk r u H1 locs1 hw hP2 hD2 hS1
theorem wq_lP {post : Int64 → va_W → Prop} (hr : va_Run p l e R s m args below meth c H locs cells slots mc ms (F0 m pc ls st0) rest (va_Ql post (wq_B D (va_A (wc ++ pl) H.size)) (va_A (wc ++ pl) H.size) a) (va_A (wc ++ pl) H.size)) (hS : va_S A0 H0 H locs) (hA : ∀ q, H0.size ≤ q → A0 q) (hP : va_P D vwCl (ws ++ pl) H) (hD : va_D A0 (ws ++ pl)) {ux : va_W} (isC isR : List Nat) (hC : isC.map (fun i => ws[i]?) = wc.map some) (hR : isR.map (fun i => ws[i]?) = wr.map some) (hn : va_nd isR = true) (hdis : ∀ i ∈ isR, i ∉ isC) (hu : ∀ r u, post r u → u = ux ++ pl)
    (kk : ∀ (r : Int64) (H1 : Heap) (locs1 : List Loc), post r (ux ++ pl) → va_P D vwCl ((wr ++ ux) ++ pl) H1 → va_D A0 ((wr ++ ux) ++ pl) → va_S A0 H0 H1 locs1 → W p l e R s m args below meth c H1 locs1 (cells + mc) (slots + ms) Q (F0 m (pc + 3) ls (.long r :: rest))) : W p l e R s m args below meth c H locs cells slots Q (F0 m pc ls st0) := by
  have hFc := va_freeP (cx := wc) hD hS hA isC hC
  refine va_calll hr hS (fun q _ h => hFc q h) hFc (fun r u t H1 locs1 ht hvm hw hB hz1 hk1 hS1 => ?_)
  obtain rfl := hu _ _ hw
  obtain ⟨hP1, hD1⟩ := hB
  rw [ht] at hP1
  obtain ⟨hP2, hD2⟩ := va_joinP (wr := wr) (rx := ux) (pl1 := pl) hP hD isC isR hC hR hn hdis hk1 hFc hP1 hD1
  exact kk r H1 locs1 hw hP2 hD2 hS1
theorem wq_rQ {post : Value → va_W → Prop} (hr : va_Run p l e R s m args below meth c H locs cells slots mc ms (F0 m pc ls st0) rest (wq_Qr post (wq_B D (va_A wc H.size)) (va_A wc H.size) a) (va_A wc H.size)) (hS : va_S A0 H0 H locs) (hA : ∀ q, H0.size ≤ q → A0 q) (hP : va_P D vwCl (ws ++ pl) H) (hD : va_D A0 (ws ++ pl)) (isC isR : List Nat) (hC : isC.map (fun i => ws[i]?) = wc.map some) (hR : isR.map (fun i => ws[i]?) = wr.map some) (hn : va_nd isR = true) (hdis : ∀ i ∈ isR, i ∉ isC)
    (kk : ∀ (r : Value) (u : va_W) (H1 : Heap) (locs1 : List Loc), post r u → va_P D vwCl ((wr ++ u) ++ pl) H1 → va_D A0 ((wr ++ u) ++ pl) → va_S A0 H0 H1 locs1 → W p l e R s m args below meth c H1 locs1 (cells + mc) (slots + ms) Q (F0 m (pc + 3) ls (r :: rest))) : W p l e R s m args below meth c H locs cells slots Q (F0 m pc ls st0) := by
  have hFc := va_free (wc := wc) (vD_left hD) hS hA isC hC
  refine wq_callr hr hS (fun q _ h => hFc q h) hFc (fun r u t H1 locs1 ht hvm hw hB hz1 hk1 hS1 => ?_)
  obtain ⟨hP1, hD1⟩ := hB
  rw [ht] at hP1
  obtain ⟨hP2, hD2⟩ := va_joinQ (wr := wr) (w1 := u) hP hD isC isR hC hR hn hdis hk1 hFc hP1 hD1
  exact kk r u H1 locs1 hw hP2 hD2 hS1
theorem wq_rP {post : Value → va_W → Prop} (hr : va_Run p l e R s m args below meth c H locs cells slots mc ms (F0 m pc ls st0) rest (wq_Qr post (wq_B D (va_A (wc ++ pl) H.size)) (va_A (wc ++ pl) H.size) a) (va_A (wc ++ pl) H.size)) (hS : va_S A0 H0 H locs) (hA : ∀ q, H0.size ≤ q → A0 q) (hP : va_P D vwCl (ws ++ pl) H) (hD : va_D A0 (ws ++ pl)) {ux : va_W} (isC isR : List Nat) (hC : isC.map (fun i => ws[i]?) = wc.map some) (hR : isR.map (fun i => ws[i]?) = wr.map some) (hn : va_nd isR = true) (hdis : ∀ i ∈ isR, i ∉ isC) (hu : ∀ r u, post r u → u = ux ++ pl)
    (kk : ∀ (r : Value) (H1 : Heap) (locs1 : List Loc), post r (ux ++ pl) → va_P D vwCl ((wr ++ ux) ++ pl) H1 → va_D A0 ((wr ++ ux) ++ pl) → va_S A0 H0 H1 locs1 → W p l e R s m args below meth c H1 locs1 (cells + mc) (slots + ms) Q (F0 m (pc + 3) ls (r :: rest))) : W p l e R s m args below meth c H locs cells slots Q (F0 m pc ls st0) := by
  have hFc := va_freeP (cx := wc) hD hS hA isC hC
  refine wq_callr hr hS (fun q _ h => hFc q h) hFc (fun r u t H1 locs1 ht hvm hw hB hz1 hk1 hS1 => ?_)
  obtain rfl := hu _ _ hw
  obtain ⟨hP1, hD1⟩ := hB
  rw [ht] at hP1
  obtain ⟨hP2, hD2⟩ := va_joinP (wr := wr) (rx := ux) (pl1 := pl) hP hD isC isR hC hR hn hdis hk1 hFc hP1 hD1
  exact kk r H1 locs1 hw hP2 hD2 hS1
end WQP
