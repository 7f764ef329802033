/-! helpers for methods that throw: the world behind a throw, of which the class E is said -/
def wq_BX (D : va_G) (A : Nat → Prop) (E : String) (u : String × va_W) (t : State) : Prop := E = u.1 ∧ wq_B D A u.2 t
theorem wq_B.nil {D : va_G} {A : Nat → Prop} {t : State} : wq_B D A [] t := ⟨fun k q h => by simp at h, fun i j p q h => by simp at h, fun k q h => by simp at h⟩
/-- the words of a throw that a class's own list doesn't hold -/
theorem wq_hat {args : Array Value} {s : State} {own E : String} {ic : Nat} {A : Nat → Prop} {td mi : Nat} {H : Heap} {Ts : List Cond} (hE : wq_E A td mi s H) (hts : ∀ w ∈ Ts, w.before args s = true) (hin : ∀ w ∈ (vx_atS own ic E ["java/lang/RuntimeException", "java/lang/Exception"]).filter goodWord, w ∈ Ts)
    (hb : ∀ w ∈ (vx_atS own ic E ["java/lang/RuntimeException", "java/lang/Exception"]).filter (fun w => !goodWord w), w ∈ ([.castable E E, .declares ⟨"java/lang/RuntimeException", "<init>", "(Ljava/lang/String;)V"⟩, .declares ⟨"java/lang/Exception", "<init>", "(Ljava/lang/String;)V"⟩, .declares ⟨"java/lang/Throwable", "<init>", "(Ljava/lang/String;)V"⟩] : List Cond)) (hc : (E, E) ∈ wq_ca) : ∀ w ∈ vx_atS own ic E ["java/lang/RuntimeException", "java/lang/Exception"], w.before args s = true :=
  vx_hat (fun w hw => hts w (hin w hw)) hb (vx_c (va_Nw.use rfl (hE.ca E E hc)) (vx_c (va_Nw.use rfl (hE.de _ (by decide +kernel))) (vx_c (va_Nw.use rfl (hE.de _ (by decide +kernel))) (vx_c (va_Nw.use rfl (hE.de _ (by decide +kernel))) vx_n))))
/-- an answer that is null or a cell, as a value -/
def wq_Qr {S : Type} (post : Value → S → Prop) (B : S → State → Prop) (A : Nat → Prop) : Array Value → State → Outcome → State → Prop := fun _ st oc t => (∃ (r : Value) (u : S), oc = .returned (some r) ∧ post r u ∧ B u t) ∧ va_F A st t
section WX
variable {p : Program} {l : Launch} {e : Env} {R : Room} {s : State} {m : MethodId} {args : Array Value} {below : List Frame} {meth : Method} {c : Code} {H : Heap} {locs : List Loc} {cells slots : Nat} {Q : State → Prop}
variable {cc : ByteArray} {pc : Nat} {ls : Array Slot} {rest st0 : List Value} {a : Array Value} {A0 : Nat → Prop} {H0 : Heap} {mc ms : Nat} {D : va_G} {ws wc wr : va_W}
/-- behind a throw: it leaves the method with nothing said of its world -/
theorem wq_thr {px : String × va_W → Prop} {A : Nat → Prop} {E : String} (hS : va_S A s.heap H locs) (hp : px (E, [])) {t : State} (hz : H.size ≤ t.heap.size) (hk : ∀ q : Nat, q < H.size → t.heap[q]? = H[q]?) : vx_X px (wq_BX D A) A E s t :=
  ⟨(E, []), hp, ⟨rfl, wq_B.nil⟩, Nat.le_trans hS.1 hz, fun q h1 h2 => (hk q (Nat.lt_of_lt_of_le h1 hS.1)).trans (hS.2.1 q h1 h2)⟩
theorem wq_thr0 {px : String × va_W → Prop} {A : Nat → Prop} {E : String} (hS : va_S A s.heap H locs) (hp : px (E, [])) {t : State} (ht : t.heap = H) : vx_X px (wq_BX D A) A E s t := wq_thr hS hp (by rw [ht]; exact Nat.le_refl _) (fun q _ => by rw [ht])
theorem wq_xv {post : va_W → Prop} {px : String × va_W → Prop} (hr : vx_Run p l e R s m args below meth c H locs cells slots mc ms (F0 m pc ls st0) rest (va_Qv post (wq_B D (va_A wc H.size)) (va_A wc H.size) a) (vx_X px (wq_BX D (va_A wc H.size)) (va_A wc H.size)) (va_A wc H.size)) (hS : va_S A0 H0 H locs) (hA : ∀ q, H0.size ≤ q → A0 q) (hP : va_P D vwCl ws H) (hD : va_D A0 ws) (isC isR : List Nat) (hC : isC.map (fun i => ws[i]?) = wc.map some) (hR : isR.map (fun i => ws[i]?) = wr.map some) (hn : va_nd isR = true) (hdis : ∀ i ∈ isR, i ∉ isC)
    (kx : ∀ (E : String) (u : va_W) (H1 : Heap) (locs1 : List Loc) (q9 : Addr) (ce : Cell), px (E, u) → va_P D vwCl (wr ++ u) H1 → va_D A0 (wr ++ u) → va_S A0 H0 H1 locs1 → H1[q9]? = some ce → ce.vm = .none → s.vm.findClass E = some ce.cls → vx_W p l e R s m args below meth c H1 locs1 (cells + mc) (slots + ms) Q (F0 m pc ls rest) q9)
    (kk : ∀ (u : va_W) (H1 : Heap) (locs1 : List Loc), post u → va_P D vwCl (wr ++ u) H1 → va_D A0 (wr ++ u) → va_S A0 H0 H1 locs1 → W p l e R s m args below meth c H1 locs1 (cells + mc) (slots + ms) Q (F0 m (pc + 3) ls rest)) : W p l e R s m args below meth c H locs cells slots Q (F0 m pc ls st0) := by
  have hFc := va_free (wc := wc) hD hS hA isC hC
  refine vx_callv hr hS (fun q _ h => hFc q h) hFc (fun q _ h => hFc q h) (fun E ce q9 u t H1 locs1 ht hvm hw hB hz1 hk1 hS1 hce hcv hcl => ?_) (fun u t H1 locs1 ht hvm hw hB hz1 hk1 hS1 => ?_)
  · obtain ⟨E', u'⟩ := u
    obtain ⟨hEE, hP1, hD1⟩ := hB
    dsimp only at hEE hP1 hD1
    subst hEE
    rw [ht] at hP1
    obtain ⟨hP2, hD2⟩ := va_join (wr := wr) (w1 := u') hP hD isC isR hC hR hn hdis hk1 hFc hP1 hD1
    exact kx E u' H1 locs1 q9 ce hw hP2 hD2 hS1 hce hcv hcl
  · obtain ⟨hP1, hD1⟩ := hB
    rw [ht] at hP1
    obtain ⟨hP2, hD2⟩ := va_join (wr := wr) (w1 := u) hP hD isC isR hC hR hn hdis hk1 hFc hP1 hD1
    exact kk u H1 locs1 hw hP2 hD2 hS1
theorem wq_xi {post : Int32 → va_W → Prop} {px : String × va_W → Prop} (hr : vx_Run p l e R s m args below meth c H locs cells slots mc ms (F0 m pc ls st0) rest (va_Qi post (wq_B D (va_A wc H.size)) (va_A wc H.size) a) (vx_X px (wq_BX D (va_A wc H.size)) (va_A wc H.size)) (va_A wc H.size)) (hS : va_S A0 H0 H locs) (hA : ∀ q, H0.size ≤ q → A0 q) (hP : va_P D vwCl ws H) (hD : va_D A0 ws) (isC isR : List Nat) (hC : isC.map (fun i => ws[i]?) = wc.map some) (hR : isR.map (fun i => ws[i]?) = wr.map some) (hn : va_nd isR = true) (hdis : ∀ i ∈ isR, i ∉ isC)
    (kx : ∀ (E : String) (u : va_W) (H1 : Heap) (locs1 : List Loc) (q9 : Addr) (ce : Cell), px (E, u) → va_P D vwCl (wr ++ u) H1 → va_D A0 (wr ++ u) → va_S A0 H0 H1 locs1 → H1[q9]? = some ce → ce.vm = .none → s.vm.findClass E = some ce.cls → vx_W p l e R s m args below meth c H1 locs1 (cells + mc) (slots + ms) Q (F0 m pc ls rest) q9)
    (kk : ∀ (r : Int32) (u : va_W) (H1 : Heap) (locs1 : List Loc), post r u → va_P D vwCl (wr ++ u) H1 → va_D A0 (wr ++ u) → va_S A0 H0 H1 locs1 → W p l e R s m args below meth c H1 locs1 (cells + mc) (slots + ms) Q (F0 m (pc + 3) ls (.int r :: rest))) : W p l e R s m args below meth c H locs cells slots Q (F0 m pc ls st0) := by
  have hFc := va_free (wc := wc) hD hS hA isC hC
  refine vx_calli hr hS (fun q _ h => hFc q h) hFc (fun q _ h => hFc q h) (fun E ce q9 u t H1 locs1 ht hvm hw hB hz1 hk1 hS1 hce hcv hcl => ?_) (fun r u t H1 locs1 ht hvm hw hB hz1 hk1 hS1 => ?_)
  · obtain ⟨E', u'⟩ := u
    obtain ⟨hEE, hP1, hD1⟩ := hB
    dsimp only at hEE hP1 hD1
    subst hEE
    rw [ht] at hP1
    obtain ⟨hP2, hD2⟩ := va_join (wr := wr) (w1 := u') hP hD isC isR hC hR hn hdis hk1 hFc hP1 hD1
    exact kx E u' H1 locs1 q9 ce hw hP2 hD2 hS1 hce hcv hcl
  · obtain ⟨hP1, hD1⟩ := hB
    rw [ht] at hP1
    obtain ⟨hP2, hD2⟩ := va_join (wr := wr) (w1 := u) hP hD isC isR hC hR hn hdis hk1 hFc hP1 hD1
    exact kk r u H1 locs1 hw hP2 hD2 hS1
theorem wq_callr {S : Type} {A1 : Nat → Prop} {free : Addr → Prop} {post : Value → S → Prop} {B : S → State → Prop} (hr : va_Run p l e R s m args below meth c H locs cells slots mc ms (F0 m pc ls st0) rest (wq_Qr post B A1 a) free) (hS : va_S A0 H0 H locs) (hA : ∀ q, q < H.size → A1 q → A0 q) (hf : ∀ q, free q → A0 q)
    (kk : ∀ (r : Value) (u : S) (t : State) (H1 : Heap) (locs1 : List Loc), t.heap = H1 → s.vm.Alike t.vm → post r u → B u t → H.size ≤ H1.size → (∀ q : Nat, q < H.size → ¬ A1 q → H1[q]? = H[q]?) → va_S A0 H0 H1 locs1 → W p l e R s m args below meth c H1 locs1 (cells + mc) (slots + ms) Q (F0 m (pc + 3) ls (r :: rest))) : W p l e R s m args below meth c H locs cells slots Q (F0 m pc ls st0) := by
  intro T hT X
  obtain ⟨v, st₀, t, T', L, h0, X', hL, e1, e2, ⟨⟨r, u, hv, hp, hb⟩, hz, hk⟩, st⟩ := hr T hT X
  cases hv
  rw [h0] at hz hk
  obtain ⟨t2, a1, b1⟩ := kk r u t T'.heap (locs ++ L) e1.symm (by rw [← e2]; exact X'.warmed.alike) hp hb (by rw [e1]; exact hz) (fun q h1 h2 => by rw [e1]; exact hk q h1 h2)
    ⟨Nat.le_trans hS.1 (by rw [e1]; exact hz), fun q h1 h2 => by rw [e1, hk q (Nat.lt_of_lt_of_le h1 hS.1) (fun z => h2 (hA q (Nat.lt_of_lt_of_le h1 hS.1) z))]; exact hS.2.1 q h1 h2, fun q hq => by
      rcases List.mem_append.mp hq with h | h
      · exact hS.2.2 q h
      · exact hf _ (hL q h)⟩ T' rfl X'
  exact ⟨t2, st t2 a1, b1⟩
theorem wq_r {post : Value → va_W → Prop} (hr : va_Run p l e R s m args below meth c H locs cells slots mc ms (F0 m pc ls st0) rest (wq_Qr post (wq_B D (va_A wc H.size)) (va_A wc H.size) a) (va_A wc H.size)) (hS : va_S A0 H0 H locs) (hA : ∀ q, H0.size ≤ q → A0 q) (hP : va_P D vwCl ws H) (hD : va_D A0 ws) (isC isR : List Nat) (hC : isC.map (fun i => ws[i]?) = wc.map some) (hR : isR.map (fun i => ws[i]?) = wr.map some) (hn : va_nd isR = true) (hdis : ∀ i ∈ isR, i ∉ isC)
    (kk : ∀ (r : Value) (u : va_W) (H1 : Heap) (locs1 : List Loc), post r u → va_P D vwCl (wr ++ u) H1 → va_D A0 (wr ++ u) → va_S A0 H0 H1 locs1 → W p l e R s m args below meth c H1 locs1 (cells + mc) (slots + ms) Q (F0 m (pc + 3) ls (r :: rest))) : W p l e R s m args below meth c H locs cells slots Q (F0 m pc ls st0) := by
  have hFc := va_free (wc := wc) hD hS hA isC hC
  refine wq_callr hr hS (fun q _ h => hFc q h) hFc (fun r u t H1 locs1 ht hvm hw hB hz1 hk1 hS1 => ?_)
  obtain ⟨hP1, hD1⟩ := hB
  rw [ht] at hP1
  obtain ⟨hP2, hD2⟩ := va_join (wr := wr) (w1 := u) hP hD isC isR hC hR hn hdis hk1 hFc hP1 hD1
  exact kk r u H1 locs1 hw hP2 hD2 hS1
end WX
theorem wq_sh0 (y : Int32) : ((0 : Int64).toUInt64 >>> (y.toInt64.toUInt64 &&& Int64.toUInt64 63)).toInt64 = 0 := by
  have h : (0 : Int64).toUInt64 = 0 := by decide
  rw [h, UInt64.zero_shiftRight]
  rfl
theorem wq_upd0 {c : Int32} {k : Nat} : upd (fun _ => c) k c = fun _ => c := by
  funext j; simp [upd]
theorem wq_upd0n {c : Int32} {k : Nat} {ty : FieldType} (h : vp_nar ty c = c := by rfl) : upd (fun _ => c) k (vp_nar ty c) = fun _ => c := by
  rw [h]; exact wq_upd0
theorem wq_updL0 {c : Int64} {k : Nat} : vp_updL (fun _ => c) k c = fun _ => c := by
  funext j; simp [vp_updL]
theorem wq_geN {i N : Nat} {M : Int32} (h : M ≤ nI i) (hi : i ≤ N) (hM : M = nI N ∧ N < 2 ^ 31) : i = N := by
  rw [hM.1, nI_leI hM.2 (by omega)] at h
  omega
theorem wq_ltN {i N : Nat} {M : Int32} (h : ¬ M ≤ nI i) (hi : i ≤ N) (hM : M = nI N ∧ N < 2 ^ 31) : i < N := by
  rw [hM.1, nI_leI hM.2 (by omega)] at h
  omega
theorem wq_fill0 {a b : Int32} : (fun _ : Nat => b) = fun j => if j < 0 then a else b := by
  funext j; simp
theorem wq_fill {a b : Int32} {i : Nat} (hi : i < 2 ^ 31) : upd (fun j => if j < i then a else b) (nI i).toNatClampNeg a = fun j => if j < i + 1 then a else b := by
  rw [nI_clamp hi]
  funext j
  unfold upd
  by_cases h1 : j = i
  · subst h1; simp
  · by_cases h2 : j < i
    · simp [h1, h2, Nat.lt_succ_of_lt h2]
    · have h3 : ¬ j < i + 1 := by omega
      simp [h1, h2, h3]
theorem wq_div64 {k : Int32} (h0 : ¬ k < 0) (h1 : ¬ 384 ≤ k) : vp_in (k / 64) 6 := by
  obtain ⟨j, hj, rfl⟩ := nI_of h0
  have h2 : j < 384 := by
    have h3 : (384 : Int32) = nI 384 := rfl
    rw [h3, nI_leI (by decide) hj] at h1
    omega
  have h4 : (64 : Int32) = nI 64 := rfl
  rw [h4, pk_div hj (by decide) (by decide)]
  exact vp_in_nI (by omega) (by decide)
theorem wq_sel {a b : Int32} {i N : Nat} (h : i < N) (hN : N < 2 ^ 31) : (fun j => if j < N then a else b) (nI i).toNatClampNeg = a := by
  rw [nI_clamp (by omega)]
  simp [h]
