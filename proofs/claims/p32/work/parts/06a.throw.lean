/-! methods that throw: their calls, beside the pool too; the world stands behind a throw -/
theorem wq_inH {D : va_G} {cl : List vw_C} {ws : va_W} {H : Heap} {k : Nat} {q : Nat × va_E} (h : va_P D cl ws H) (hq : ws[k]? = some q) : q.1 < H.size := by
  have h1 := h k q hq
  unfold va_at at h1
  cases he : q.2 with
  | inl a =>
    rw [he] at h1
    exact (Array.getElem?_eq_some_iff.mp h1).1
  | inr o =>
    rw [he] at h1
    obtain ⟨r, -, cell, h2, -⟩ := h1
    exact (Array.getElem?_eq_some_iff.mp h2).1
def wq_BX (D : va_G) (A : Nat → Prop) (E : String) (u : String × va_W) (t : State) : Prop := E = u.1 ∧ wq_B D A u.2 t
theorem wq_B.nil {D : va_G} {A : Nat → Prop} {t : State} : wq_B D A [] t := ⟨fun k q h => by simp at h, fun i j p q h => by simp at h, fun k q h => by simp at h⟩
/-- the words of a throw that a class's own list doesn't hold -/
theorem wq_hat {args : Array Value} {s : State} {own E : String} {ic : Nat} {A : Nat → Prop} {td mi : Nat} {H : Heap} {Ts : List Cond} (hE : wq_E A td mi s H) (hts : ∀ w ∈ Ts, w.before args s = true) (hin : ∀ w ∈ (vx_atS own ic E ["java/lang/RuntimeException", "java/lang/Exception"]).filter goodWord, w ∈ Ts)
    (hb : ∀ w ∈ (vx_atS own ic E ["java/lang/RuntimeException", "java/lang/Exception"]).filter (fun w => !goodWord w), w ∈ ([.castable E E, .declares ⟨"java/lang/RuntimeException", "<init>", "(Ljava/lang/String;)V"⟩, .declares ⟨"java/lang/Exception", "<init>", "(Ljava/lang/String;)V"⟩, .declares ⟨"java/lang/Throwable", "<init>", "(Ljava/lang/String;)V"⟩] : List Cond)) (hc : (E, E) ∈ wq_ca) : ∀ w ∈ vx_atS own ic E ["java/lang/RuntimeException", "java/lang/Exception"], w.before args s = true :=
  vx_hat (fun w hw => hts w (hin w hw)) hb (vx_c (va_Nw.use rfl (hE.ca E E hc)) (vx_c (va_Nw.use rfl (hE.de _ (by decide +kernel))) (vx_c (va_Nw.use rfl (hE.de _ (by decide +kernel))) (vx_c (va_Nw.use rfl (hE.de _ (by decide +kernel))) vx_n))))
section WXP
variable {p : Program} {l : Launch} {e : Env} {R : Room} {s : State} {m : MethodId} {args : Array Value} {below : List Frame} {meth : Method} {c : Code} {H : Heap} {locs : List Loc} {cells slots : Nat} {Q : State → Prop}
variable {cc : ByteArray} {pc : Nat} {ls : Array Slot} {rest st0 : List Value} {a : Array Value} {A0 : Nat → Prop} {H0 : Heap} {mc ms : Nat} {D : va_G} {ws wc wr : va_W}
variable {pl : va_W}
theorem wq_thrW {px : String × va_W → Prop} {A : Nat → Prop} {E : String} {W : va_W} (hS : va_S A s.heap H locs) (hP : va_P D vwCl W H) (hD : va_D A W) (hp : px (E, W)) {t : State} (hz : H.size ≤ t.heap.size) (hk : ∀ q : Nat, q < H.size → t.heap[q]? = H[q]?) : vx_X px (wq_BX D A) A E s t := by
  refine ⟨(E, W), hp, ⟨rfl, va_P.kept hP (fun k q hq => hk q.1 ?_), hD⟩, Nat.le_trans hS.1 hz, fun q h1 h2 => (hk q (Nat.lt_of_lt_of_le h1 hS.1)).trans (hS.2.1 q h1 h2)⟩
  exact wq_inH hP hq
theorem wq_thrW0 {px : String × va_W → Prop} {A : Nat → Prop} {E : String} {W : va_W} (hS : va_S A s.heap H locs) (hP : va_P D vwCl W H) (hD : va_D A W) (hp : px (E, W)) {t : State} (ht : t.heap = H) : vx_X px (wq_BX D A) A E s t := wq_thrW hS hP hD hp (by rw [ht]; exact Nat.le_refl _) (fun q _ => by rw [ht])
theorem wq_xv {post : va_W → Prop} {px : String × va_W → Prop} (hr : vx_Run p l e R s m args below meth c H locs cells slots mc ms (F0 m pc ls st0) rest (va_Qv post (wq_B D (va_A wc H.size)) (va_A wc H.size) a) (vx_X px (wq_BX D (va_A wc H.size)) (va_A wc H.size)) (va_A wc H.size)) (hS : va_S A0 H0 H locs) (hA : ∀ q, H0.size ≤ q → A0 q) (hP : va_P D vwCl ws H) (hD : va_D A0 ws) (isC isR : List Nat) (hC : isC.map (fun i => ws[i]?) = wc.map some) (hR : isR.map (fun i => ws[i]?) = wr.map some) (hn : va_nd isR = true) (hdis : ∀ i ∈ isR, i ∉ isC)
    (kx : ∀ (E : String) (u : va_W) (H1 : Heap) (locs1 : List Loc) (q9 : Addr) (ce : Cell), px (E, u) → va_P D vwCl (wr ++ u) H1 → va_D A0 (wr ++ u) → va_S A0 H0 H1 locs1 → H1[q9]? = some ce → ce.vm = .none → s.vm.findClass E = some ce.cls → vx_W p l e R s m args below meth c H1 locs1 (cells + mc) (slots + ms) Q (F0 m pc ls rest) q9)
    (kk : ∀ (u : va_W) (H1 : Heap) (locs1 : List Loc), post u → va_P D vwCl (wr ++ u) H1 → va_D A0 (wr ++ u) → va_S A0 H0 H1 locs1 → W p l e R s m args below meth c H1 locs1 (cells + mc) (slots + ms) Q (F0 m (pc + 3) ls rest)) : W p l e R s m args below meth c H locs cells slots Q (F0 m pc ls st0) := by
  have hFc := va_free (wc := wc) hD hS hA isC hC
  refine vx_callv hr hS (fun q _ h => hFc q h) hFc (fun q _ h => hFc q h) (fun E ce q9 u t H1 locs1 ht hvm hw hB hz1 hk1 hS1 hce hcv hcl => ?_) (fun u t H1 locs1 ht hvm hw hB hz1 hk1 hS1 => ?_)
  · obtain ⟨E', u'⟩ := u
    obtain ⟨hEE, hP1, hD1⟩ := hB
    dsimp only at hEE hP1 hD1
    subst hEE
    rw [ht] at hP1
    obtain ⟨hP2, hD2⟩ := va_join (wr := wr) (w1 := u') hP hD isC isR hC hR hn hdis hk1 hFc hP1 hD1
    exact kx E u' H1 locs1 q9 ce hw hP2 hD2 hS1 hce hcv hcl
  · obtain ⟨hP1, hD1⟩ := hB
    rw [ht] at hP1
    obtain ⟨hP2, hD2⟩ := va_join (wr := wr) (w1 := u) hP hD isC isR hC hR hn hdis hk1 hFc hP1 hD1
    exact kk u H1 locs1 hw hP2 hD2 hS1
theorem wq_xi {post : Int32 → va_W → Prop} {px : String × va_W → Prop} (hr : vx_Run p l e R s m args below meth c H locs cells slots mc ms (F0 m pc ls st0) rest (va_Qi post (wq_B D (va_A wc H.size)) (va_A wc H.size) a) (vx_X px (wq_BX D (va_A wc H.size)) (va_A wc H.size)) (va_A wc H.size)) (hS : va_S A0 H0 H locs) (hA : ∀ q, H0.size ≤ q → A0 q) (hP : va_P D vwCl ws H) (hD : va_D A0 ws) (isC isR : List Nat) (hC : isC.map (fun i => ws[i]?) = wc.map some) (hR : isR.map (fun i => ws[i]?) = wr.map some) (hn : va_nd isR = true) (hdis : ∀ i ∈ isR, i ∉ isC)
    (kx : ∀ (E : String) (u : va_W) (H1 : Heap) (locs1 : List Loc) (q9 : Addr) (ce : Cell), px (E, u) → va_P D vwCl (wr ++ u) H1 → va_D A0 (wr ++ u) → va_S A0 H0 H1 locs1 → H1[q9]? = some ce → ce.vm = .none → s.vm.findClass E = some ce.cls → vx_W p l e R s m args below meth c H1 locs1 (cells + mc) (slots + ms) Q (F0 m pc ls rest) q9)
    (kk : ∀ (r : Int32) (u : va_W) (H1 : Heap) (locs1 : List Loc), post r u → va_P D vwCl (wr ++ u) H1 → va_D A0 (wr ++ u) → va_S A0 H0 H1 locs1 → W p l e R s m args below meth c H1 locs1 (cells + mc) (slots + ms) Q (F0 m (pc + 3) ls (.int r :: rest))) : W p l e R s m args below meth c H locs cells slots Q (F0 m pc ls st0) := by
  have hFc := va_free (wc := wc) hD hS hA isC hC
  refine vx_calli hr hS (fun q _ h => hFc q h) hFc (fun q _ h => hFc q h) (fun E ce q9 u t H1 locs1 ht hvm hw hB hz1 hk1 hS1 hce hcv hcl => ?_) (fun r u t H1 locs1 ht hvm hw hB hz1 hk1 hS1 => ?_)
  · obtain ⟨E', u'⟩ := u
    obtain ⟨hEE, hP1, hD1⟩ := hB
    dsimp only at hEE hP1 hD1
    subst hEE
    rw [ht] at hP1
    obtain ⟨hP2, hD2⟩ := va_join (wr := wr) (w1 := u') hP hD isC isR hC hR hn hdis hk1 hFc hP1 hD1
    exact kx E u' H1 locs1 q9 ce hw hP2 hD2 hS1 hce hcv hcl
  · obtain ⟨hP1, hD1⟩ := hB
    rw [ht] at hP1
    obtain ⟨hP2, hD2⟩ := va_join (wr := wr) (w1 := u) hP hD isC isR hC hR hn hdis hk1 hFc hP1 hD1
    exact kk r u H1 locs1 hw hP2 hD2 hS1
theorem wq_xvQ {post : va_W → Prop} {px : String × va_W → Prop} (hr : vx_Run p l e R s m args below meth c H locs cells slots mc ms (F0 m pc ls st0) rest (va_Qv post (wq_B D (va_A wc H.size)) (va_A wc H.size) a) (vx_X px (wq_BX D (va_A wc H.size)) (va_A wc H.size)) (va_A wc H.size)) (hS : va_S A0 H0 H locs) (hA : ∀ q, H0.size ≤ q → A0 q) (hP : va_P D vwCl (ws ++ pl) H) (hD : va_D A0 (ws ++ pl)) (isC isR : List Nat) (hC : isC.map (fun i => ws[i]?) = wc.map some) (hR : isR.map (fun i => ws[i]?) = wr.map some) (hn : va_nd isR = true) (hdis : ∀ i ∈ isR, i ∉ isC)
    (kx : ∀ (E : String) (u : va_W) (H1 : Heap) (locs1 : List Loc) (q9 : Addr) (ce : Cell), px (E, u) → va_P D vwCl ((wr ++ u) ++ pl) H1 → va_D A0 ((wr ++ u) ++ pl) → va_S A0 H0 H1 locs1 → H1[q9]? = some ce → ce.vm = .none → s.vm.findClass E = some ce.cls → vx_W p l e R s m args below meth c H1 locs1 (cells + mc) (slots + ms) Q (F0 m pc ls rest) q9)
    (kk : ∀ (u : va_W) (H1 : Heap) (locs1 : List Loc), post u → va_P D vwCl ((wr ++ u) ++ pl) H1 → va_D A0 ((wr ++ u) ++ pl) → va_S A0 H0 H1 locs1 → W p l e R s m args below meth c H1 locs1 (cells + mc) (slots + ms) Q (F0 m (pc + 3) ls rest)) : W p l e R s m args below meth c H locs cells slots Q (F0 m pc ls st0) := by
  have hFc := va_free (wc := wc) (vD_left hD) hS hA isC hC
  refine vx_callv hr hS (fun q _ h => hFc q h) hFc (fun q _ h => hFc q h) (fun E ce q9 u t H1 locs1 ht hvm hw hB hz1 hk1 hS1 hce hcv hcl => ?_) (fun u t H1 locs1 ht hvm hw hB hz1 hk1 hS1 => ?_)
  · obtain ⟨E', u'⟩ := u
    obtain ⟨hEE, hP1, hD1⟩ := hB
    dsimp only at hEE hP1 hD1
    subst hEE
    rw [ht] at hP1
    obtain ⟨hP2, hD2⟩ := va_joinQ (wr := wr) (w1 := u') hP hD isC isR hC hR hn hdis hk1 hFc hP1 hD1
    exact kx E u' H1 locs1 q9 ce hw hP2 hD2 hS1 hce hcv hcl
  · obtain ⟨hP1, hD1⟩ := hB
    rw [ht] at hP1
    obtain ⟨hP2, hD2⟩ := va_joinQ (wr := wr) (w1 := u) hP hD isC isR hC hR hn hdis hk1 hFc hP1 hD1
    exact kk u H1 locs1 hw hP2 hD2 hS1
theorem wq_xvP {post : va_W → Prop} {px : String × va_W → Prop} (hr : vx_Run p l e R s m args below meth c H locs cells slots mc ms (F0 m pc ls st0) rest (va_Qv post (wq_B D (va_A (wc ++ pl) H.size)) (va_A (wc ++ pl) H.size) a) (vx_X px (wq_BX D (va_A (wc ++ pl) H.size)) (va_A (wc ++ pl) H.size)) (va_A (wc ++ pl) H.size)) (hS : va_S A0 H0 H locs) (hA : ∀ q, H0.size ≤ q → A0 q) (hP : va_P D vwCl (ws ++ pl) H) (hD : va_D A0 (ws ++ pl)) {ux : va_W} (isC isR : List Nat) (hC : isC.map (fun i => ws[i]?) = wc.map some) (hR : isR.map (fun i => ws[i]?) = wr.map some) (hn : va_nd isR = true) (hdis : ∀ i ∈ isR, i ∉ isC) (hu : ∀ u, post u → u = ux ++ pl) (hx9 : ∀ E u, px (E, u) → u = ux ++ pl)
    (kx : ∀ (E : String) (H1 : Heap) (locs1 : List Loc) (q9 : Addr) (ce : Cell), px (E, ux ++ pl) → va_P D vwCl ((wr ++ ux) ++ pl) H1 → va_D A0 ((wr ++ ux) ++ pl) → va_S A0 H0 H1 locs1 → H1[q9]? = some ce → ce.vm = .none → s.vm.findClass E = some ce.cls → vx_W p l e R s m args below meth c H1 locs1 (cells + mc) (slots + ms) Q (F0 m pc ls rest) q9)
    (kk : ∀ (H1 : Heap) (locs1 : List Loc), post (ux ++ pl) → va_P D vwCl ((wr ++ ux) ++ pl) H1 → va_D A0 ((wr ++ ux) ++ pl) → va_S A0 H0 H1 locs1 → W p l e R s m args below meth c H1 locs1 (cells + mc) (slots + ms) Q (F0 m (pc + 3) ls rest)) : W p l e R s m args below meth c H locs cells slots Q (F0 m pc ls st0) := by
  have hFc := va_freeP (cx := wc) hD hS hA isC hC
  refine vx_callv hr hS (fun q _ h => hFc q h) hFc (fun q _ h => hFc q h) (fun E ce q9 u t H1 locs1 ht hvm hw hB hz1 hk1 hS1 hce hcv hcl => ?_) (fun u t H1 locs1 ht hvm hw hB hz1 hk1 hS1 => ?_)
  · obtain ⟨E', u'⟩ := u
    obtain ⟨hEE, hP1, hD1⟩ := hB
    dsimp only at hEE hP1 hD1
    subst hEE
    rw [ht] at hP1
    obtain rfl := hx9 _ _ hw
    obtain ⟨hP2, hD2⟩ := va_joinP (wr := wr) (rx := ux) (pl1 := pl) hP hD isC isR hC hR hn hdis hk1 hFc hP1 hD1
    exact kx E H1 locs1 q9 ce hw hP2 hD2 hS1 hce hcv hcl
  · obtain rfl := hu _ hw
    obtain ⟨hP1, hD1⟩ := hB
    rw [ht] at hP1
    obtain ⟨hP2, hD2⟩ := va_joinP (wr := wr) (rx := ux) (pl1 := pl) hP hD isC isR hC hR hn hdis hk1 hFc hP1 hD1
    exact kk H1 locs1 hw hP2 hD2 hS1
theorem wq_xiQ {post : Int32 → va_W → Prop} {px : String × va_W → Prop} (hr : vx_Run p l e R s m args below meth c H locs cells slots mc ms (F0 m pc ls st0) rest (va_Qi post (wq_B D (va_A wc H.size)) (va_A wc H.size) a) (vx_X px (wq_BX D (va_A wc H.size)) (va_A wc H.size)) (va_A wc H.size)) (hS : va_S A0 H0 H locs) (hA : ∀ q, H0.size ≤ q → A0 q) (hP : va_P D vwCl (ws ++ pl) H) (hD : va_D A0 (ws ++ pl)) (isC isR : List Nat) (hC : isC.map (fun i => ws[i]?) = wc.map some) (hR : isR.map (fun i => ws[i]?) = wr.map some) (hn : va_nd isR = true) (hdis : ∀ i ∈ isR, i ∉ isC)
    (kx : ∀ (E : String) (u : va_W) (H1 : Heap) (locs1 : List Loc) (q9 : Addr) (ce : Cell), px (E, u) → va_P D vwCl ((wr ++ u) ++ pl) H1 → va_D A0 ((wr ++ u) ++ pl) → va_S A0 H0 H1 locs1 → H1[q9]? = some ce → ce.vm = .none → s.vm.findClass E = some ce.cls → vx_W p l e R s m args below meth c H1 locs1 (cells + mc) (slots + ms) Q (F0 m pc ls rest) q9)
    (kk : ∀ (r : Int32) (u : va_W) (H1 : Heap) (locs1 : List Loc), post r u → va_P D vwCl ((wr ++ u) ++ pl) H1 → va_D A0 ((wr ++ u) ++ pl) → va_S A0 H0 H1 locs1 → W p l e R s m args below meth c H1 locs1 (cells + mc) (slots + ms) Q (F0 m (pc + 3) ls (.int r :: rest))) : W p l e R s m args below meth c H locs cells slots Q (F0 m pc ls st0) := by
  have hFc := va_free (wc := wc) (vD_left hD) hS hA isC hC
  refine vx_calli hr hS (fun q _ h => hFc q h) hFc (fun q _ h => hFc q h) (fun E ce q9 u t H1 locs1 ht hvm hw hB hz1 hk1 hS1 hce hcv hcl => ?_) (fun r u t H1 locs1 ht hvm hw hB hz1 hk1 hS1 => ?_)
  · obtain ⟨E', u'⟩ := u
    obtain ⟨hEE, hP1, hD1⟩ := hB
    dsimp only at hEE hP1 hD1
    subst hEE
    rw [ht] at hP1
    obtain ⟨hP2, hD2⟩ := va_joinQ (wr := wr) (w1 := u') hP hD isC isR hC hR hn hdis hk1 hFc hP1 hD1
    exact kx E u' H1 locs1 q9 ce hw hP2 hD2 hS1 hce hcv hcl
  · obtain ⟨hP1, hD1⟩ := hB
    rw [ht] at hP1
    obtain ⟨hP2, hD2⟩ := va_joinQ (wr := wr) (w1 := u) hP hD isC isR hC hR hn hdis hk1 hFc hP1 hD1
    exact kk r u H1 locs1 hw hP2 hD2 hS1
theorem wq_xiP {post : Int32 → va_W → Prop} {px : String × va_W → Prop} (hr : vx_Run p l e R s m args below meth c H locs cells slots mc ms (F0 m pc ls st0) rest (va_Qi post (wq_B D (va_A (wc ++ pl) H.size)) (va_A (wc ++ pl) H.size) a) (vx_X px (wq_BX D (va_A (wc ++ pl) H.size)) (va_A (wc ++ pl) H.size)) (va_A (wc ++ pl) H.size)) (hS : va_S A0 H0 H locs) (hA : ∀ q, H0.size ≤ q → A0 q) (hP : va_P D vwCl (ws ++ pl) H) (hD : va_D A0 (ws ++ pl)) {ux : va_W} (isC isR : List Nat) (hC : isC.map (fun i => ws[i]?) = wc.map some) (hR : isR.map (fun i => ws[i]?) = wr.map some) (hn : va_nd isR = true) (hdis : ∀ i ∈ isR, i ∉ isC) (hu : ∀ r u, post r u → u = ux ++ pl) (hx9 : ∀ E u, px (E, u) → u = ux ++ pl)
    (kx : ∀ (E : String) (H1 : Heap) (locs1 : List Loc) (q9 : Addr) (ce : Cell), px (E, ux ++ pl) → va_P D vwCl ((wr ++ ux) ++ pl) H1 → va_D A0 ((wr ++ ux) ++ pl) → va_S A0 H0 H1 locs1 → H1[q9]? = some ce → ce.vm = .none → s.vm.findClass E = some ce.cls → vx_W p l e R s m args below meth c H1 locs1 (cells + mc) (slots + ms) Q (F0 m pc ls rest) q9)
    (kk : ∀ (r : Int32) (H1 : Heap) (locs1 : List Loc), post r (ux ++ pl) → va_P D vwCl ((wr ++ ux) ++ pl) H1 → va_D A0 ((wr ++ ux) ++ pl) → va_S A0 H0 H1 locs1 → W p l e R s m args below meth c H1 locs1 (cells + mc) (slots + ms) Q (F0 m (pc + 3) ls (.int r :: rest))) : W p l e R s m args below meth c H locs cells slots Q (F0 m pc ls st0) := by
  have hFc := va_freeP (cx := wc) hD hS hA isC hC
  refine vx_calli hr hS (fun q _ h => hFc q h) hFc (fun q _ h => hFc q h) (fun E ce q9 u t H1 locs1 ht hvm hw hB hz1 hk1 hS1 hce hcv hcl => ?_) (fun r u t H1 locs1 ht hvm hw hB hz1 hk1 hS1 => ?_)
  · obtain ⟨E', u'⟩ := u
    obtain ⟨hEE, hP1, hD1⟩ := hB
    dsimp only at hEE hP1 hD1
    subst hEE
    rw [ht] at hP1
    obtain rfl := hx9 _ _ hw
    obtain ⟨hP2, hD2⟩ := va_joinP (wr := wr) (rx := ux) (pl1 := pl) hP hD isC isR hC hR hn hdis hk1 hFc hP1 hD1
    exact kx E H1 locs1 q9 ce hw hP2 hD2 hS1 hce hcv hcl
  · obtain rfl := hu _ _ hw
    obtain ⟨hP1, hD1⟩ := hB
    rw [ht] at hP1
    obtain ⟨hP2, hD2⟩ := va_joinP (wr := wr) (rx := ux) (pl1 := pl) hP hD isC isR hC hR hn hdis hk1 hFc hP1 hD1
    exact kk r H1 locs1 hw hP2 hD2 hS1
end WXP
