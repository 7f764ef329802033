/-! the law, 1: lists of literals, the pool that a new rule makes, pools side by side; arrays of rows -/
section PO
def lcell (q : Nat) (K P B : Int32) : Nat × va_E := (q, .inr (6, [.int K, .int P, .int B, .int 0, .int 0, .int 0, .int 0, .int 0]))
def lH (x : Nat × Nat) : Nat × va_E := lcell x.1 104 (nI x.2) 0
def lC (x : Nat × Int32 × Nat × Int32) : Nat × va_E := lcell x.1 x.2.1 (nI x.2.2.1) x.2.2.2
def hF (hds : List (Nat × Nat)) : Nat → Option Nat := fun j => (hds[j]?).map Prod.fst
def cF (cds : List (Nat × Int32 × Nat × Int32)) : Nat → Option Nat := fun j => (cds[j]?).map Prod.fst
theorem fst_add {α : Type} (l : List (Nat × α)) (q : Nat) (x : α) (j : Nat) : (if j = l.length then some q else (l[j]?).map Prod.fst) = ((l ++ [(q, x)])[j]?).map Prod.fst := by
  by_cases h : j = l.length
  · subst h
    rw [if_pos rfl, List.getElem?_append_right (Nat.le_refl _), Nat.sub_self]
    rfl
  · rw [if_neg h]
    by_cases g : j < l.length
    · rw [List.getElem?_append_left g]
    · rw [List.getElem?_eq_none (by omega), List.getElem?_eq_none (by rw [List.length_append]; show l.length + 1 ≤ j; omega)]
theorem hF_add (hds : List (Nat × Nat)) (q p : Nat) : va_up (hF hds) hds.length (some q) = hF (hds ++ [(q, p)]) := funext fun j => fst_add hds q p j
theorem cF_add (cds : List (Nat × Int32 × Nat × Int32)) (q : Nat) (x : Int32 × Nat × Int32) : va_up (cF cds) cds.length (some q) = cF (cds ++ [(q, x)]) := funext fun j => fst_add cds q x j
theorem hF_nil : hF [] = fun _ => none := rfl
theorem cF_nil : cF [] = fun _ => none := rfl
theorem vP_mem {D : va_G} {cl : List vw_C} {L L' : va_W} {H : Heap} (h : va_P D cl L H) (e : ∀ x ∈ L', x ∈ L) : va_P D cl L' H := fun k q hk => by
  obtain ⟨i, hi⟩ := List.getElem?_of_mem (e q (List.mem_of_getElem? hk))
  exact h i q hi
theorem vD_perm {A : Nat → Prop} {L L' : va_W} (h : va_D A L) (e : L.Perm L') : va_D A L' := by
  obtain ⟨h1, h2⟩ := dN.mp h
  exact dN.mpr ⟨(e.map Prod.fst).nodup_iff.mp h1, fun q hq => h2 q (e.mem_iff.mpr hq)⟩
/-- the data of literals: kind, predicate, bound -/
def lgi (x : Int32 × Int32 × Int32) (j : Nat) : Int32 := if j = 0 then x.1 else if j = 1 then x.2.1 else if j = 2 then x.2.2 else 0
def lits (hds : List (Nat × Nat)) (cds : List (Nat × Int32 × Nat × Int32)) : List (Nat × Int32 × Int32 × Int32) := hds.map (fun x => (x.1, (104 : Int32), nI x.2, (0 : Int32))) ++ cds.map (fun x => (x.1, x.2.1, nI x.2.2.1, x.2.2.2))
theorem lits_cells (hds : List (Nat × Nat)) (cds : List (Nat × Int32 × Nat × Int32)) : hds.map lH ++ cds.map lC = (lits hds cds).map (fun x => lcell x.1 x.2.1 x.2.2.1 x.2.2.2) := by
  unfold lits
  rw [List.map_append, List.map_map, List.map_map]
  rfl
def rlI (K pa lo up sp we le : Int32) (h c : Nat) (j : Nat) : Int32 := if j = 0 then K else if j = 1 then pa else if j = 2 then lo else if j = 3 then up else if j = 4 then sp else if j = 5 then we else if j = 6 then le else if j = 8 then nI h else if j = 10 then nI c else 0
def lkI (ls : List (Nat × Int32 × Int32 × Int32)) (q j : Nat) : Int32 := match ls.find? (fun x => x.1 == q) with
  | some x => lgi x.2 j
  | none => 0
theorem lkI_at : ∀ {ls : List (Nat × Int32 × Int32 × Int32)}, (ls.map Prod.fst).Nodup → ∀ x ∈ ls, ∀ j, lkI ls x.1 j = lgi x.2 j
  | [], _, x, hx, _ => absurd hx List.not_mem_nil
  | y :: ls, hn, x, hx, j => by
    unfold lkI
    rw [List.find?_cons]
    rcases List.mem_cons.mp hx with rfl | hx'
    · simp
    · have hne : ¬ y.1 = x.1 := fun e => (List.nodup_cons.mp hn).1 (by
        show y.1 ∈ ls.map Prod.fst
        rw [e]
        exact List.mem_map_of_mem hx')
      rw [show (y.1 == x.1) = false from by simp [hne]]
      exact lkI_at (List.nodup_cons.mp hn).2 x hx' j
/-- the pool of one rule -/
def mkP (a z y1 y2 : Nat) (K pa lo up sp we le : Int32) (hds : List (Nat × Nat)) (cds : List (Nat × Int32 × Nat × Int32)) (zf : Nat → Int32) : pT := (([a], (lits hds cds).map Prod.fst, [z]), (fun q j => if q = a then rlI K pa lo up sp we le hds.length cds.length j else if q = z then zf j else lkI (lits hds cds) q j), (fun _ j => if j = 0 then y1 else y2), fun _ j => if j = 0 then hF hds else cF cds)
section MK
variable {a z y1 y2 : Nat} {K pa lo up sp we le : Int32} {hds : List (Nat × Nat)} {cds : List (Nat × Int32 × Nat × Int32)} {zf : Nat → Int32}
theorem mk_a (j : Nat) : pI (mkP a z y1 y2 K pa lo up sp we le hds cds zf) a j = rlI K pa lo up sp we le hds.length cds.length j := if_pos rfl
theorem mk_z (h : ¬ z = a) (j : Nat) : pI (mkP a z y1 y2 K pa lo up sp we le hds cds zf) z j = zf j := (if_neg h).trans (if_pos rfl)
theorem mk_l (hn : ((lits hds cds).map Prod.fst).Nodup) {x : Nat × Int32 × Int32 × Int32} (hx : x ∈ lits hds cds) (h1 : ¬ x.1 = a) (h2 : ¬ x.1 = z) (j : Nat) : pI (mkP a z y1 y2 K pa lo up sp we le hds cds zf) x.1 j = lgi x.2 j := ((if_neg h1).trans (if_neg h2)).trans (lkI_at hn x hx j)
theorem mk_pw (ty : Nat → ClassId) (hn : ((lits hds cds).map Prod.fst).Nodup) (hza : ¬ z = a) (hla : ∀ x ∈ lits hds cds, ¬ x.1 = a ∧ ¬ x.1 = z) : pw ty (mkP a z y1 y2 K pa lo up sp we le hds cds zf) = [(a, .inr (10, [.int K, .int pa, .int lo, .int up, .int sp, .int we, .int le, .ref y1, .int (nI hds.length), .ref y2, .int (nI cds.length)])), (y1, .inl (ty 5, 2, .inr (.inr (.inr (.inr (hF hds)))))), (y2, .inl (ty 5, 5, .inr (.inr (.inr (.inr (cF cds))))))] ++ ((hds.map lH ++ cds.map lC) ++ [(z, .inl (ty 0, 11, .inl zf))]) := by
  have e1 : (pLA (mkP a z y1 y2 K pa lo up sp we le hds cds zf)).map (pcL (mkP a z y1 y2 K pa lo up sp we le hds cds zf)) = hds.map lH ++ cds.map lC := by
    rw [lits_cells]
    show ((lits hds cds).map Prod.fst).map _ = _
    rw [List.map_map]
    refine List.map_congr_left fun x hx => ?_
    obtain ⟨h1, h2⟩ := hla x hx
    have g := mk_l (y1 := y1) (y2 := y2) (K := K) (pa := pa) (lo := lo) (up := up) (sp := sp) (we := we) (le := le) (zf := zf) hn hx h1 h2
    show pcL _ x.1 = _
    unfold pcL
    rw [g 0, g 1, g 2, g 3, g 4, g 5, g 6, g 7]
    rfl
  have e2 : pcZ ty (mkP a z y1 y2 K pa lo up sp we le hds cds zf) z = (z, .inl (ty 0, 11, .inl zf)) := by
    unfold pcZ
    rw [show pI (mkP a z y1 y2 K pa lo up sp we le hds cds zf) z = zf from funext fun j => mk_z hza j]
  have e3 : pcR (mkP a z y1 y2 K pa lo up sp we le hds cds zf) a = (a, .inr (10, [.int K, .int pa, .int lo, .int up, .int sp, .int we, .int le, .ref y1, .int (nI hds.length), .ref y2, .int (nI cds.length)])) := by
    unfold pcR
    rw [mk_a, mk_a, mk_a, mk_a, mk_a, mk_a, mk_a, mk_a, mk_a]
    rfl
  unfold pw
  rw [e1]
  show [pcR _ a, pcA ty _ a 0 2, pcA ty _ a 1 5] ++ _ = _
  rw [e3]
  show _ ++ ((hds.map lH ++ cds.map lC) ++ [pcZ ty _ z]) = _
  rw [e2]
  rfl
end MK
/-- the world's list with the new rule, and as a pool -/
theorem ar_perm {B : va_W} {z r1 r2 r3 : Nat × va_E} {l : va_W} : (B ++ ([z, r1, r2, r3] ++ l)).Perm (B ++ ([r1, r2, r3] ++ (l ++ [z]))) := by
  refine List.Perm.append_left B ?_
  show (z :: ([r1, r2, r3] ++ l)).Perm _
  rw [← List.append_assoc]
  exact (List.perm_append_comm (l₁ := [z])).trans (List.Perm.refl _)
/-- what addRule leaves, as a pool of one rule -/
theorem ar_fin {n : Nat} (hn6 : n ≤ 6) {a z y1 y2 : Nat} {K pa lo up sp we le : Int32} {hds : List (Nat × Nat)} {cds : List (Nat × Int32 × Nat × Int32)} {zf : Nat → Int32} {ty : Nat → ClassId} {A : Nat → Prop} {B : va_W}
    (hK : K = 100 ∨ K = 99 ∨ K = 119) (hz0 : zf 0 = K) (hpa : pa = 0) (hsp : sp = -1) (h99 : K = 99 → lo = zf 2 ∧ up = zf 3) (h119 : K = 119 → we = zf 2 ∧ le = zf 3)
    (hh : hds.length ≤ 2) (hh0 : K = 119 → hds.length = 0) (hhp : ∀ x ∈ hds, x.2 < n) (hz1 : ∀ p, bt (zf 1) p = true ↔ ∃ x ∈ hds, x.2 = p)
    (hc : cds.length ≤ 3) (hcp : ∀ x ∈ cds, x.2.2.1 < n ∧ (x.2.1 = 116 ∨ x.2.1 = 102 ∨ x.2.1 = 103 ∧ x.2.2.2 = 1 ∨ x.2.1 = 108 ∧ x.2.2.2 = 0))
    (hz4 : ∀ p, bt (zf 4) p = true ↔ ∃ x ∈ cds, x.2.1 = 116 ∧ x.2.2.1 = p) (hz5 : ∀ p, bt (zf 5) p = true ↔ ∃ x ∈ cds, x.2.1 = 102 ∧ x.2.2.1 = p) (hz8 : ∀ p, bt (zf 8) p = true ↔ ∃ x ∈ cds, x.2.1 = 103 ∧ x.2.2.1 = p) (hz9 : ∀ p, bt (zf 9) p = true ↔ ∃ x ∈ cds, x.2.1 = 108 ∧ x.2.2.1 = p)
    (hz6 : zf 6 = zf 8) (hz7 : zf 7 = 0) (hz2 : -4 ≤ (zf 2).toInt ∧ (zf 2).toInt ≤ 4) (hz3 : 0 ≤ (zf 3).toInt ∧ (zf 3).toInt ≤ 3)
    (hD : va_D A (B ++ ([(z, .inl (ty 0, 11, .inl zf)), (a, .inr (10, [.int K, .int pa, .int lo, .int up, .int sp, .int we, .int le, .ref y1, .int (nI hds.length), .ref y2, .int (nI cds.length)])), (y1, .inl (ty 5, 2, .inr (.inr (.inr (.inr (hF hds)))))), (y2, .inl (ty 5, 5, .inr (.inr (.inr (.inr (cF cds))))))] ++ (hds.map lH ++ cds.map lC)))) :
    ∃ p' : pT, pRA p' = [a] ∧ pZA p' = [z] ∧ pOK p' ∧ rOK p' n a z hds.length cds.length ∧ zOK p' z ∧ (∀ j, pI p' z j = zf j) ∧ (∀ (D : va_G) (cl : List vw_C) (H : Heap), va_P D cl (B ++ ([(z, .inl (ty 0, 11, .inl zf)), (a, .inr (10, [.int K, .int pa, .int lo, .int up, .int sp, .int we, .int le, .ref y1, .int (nI hds.length), .ref y2, .int (nI cds.length)])), (y1, .inl (ty 5, 2, .inr (.inr (.inr (.inr (hF hds)))))), (y2, .inl (ty 5, 5, .inr (.inr (.inr (.inr (cF cds))))))] ++ (hds.map lH ++ cds.map lC))) H → va_P D cl (B ++ pw ty p') H) ∧ va_D A (B ++ pw ty p') := by
  -- the addresses are apart
  have hnd := (dN.mp hD).1
  rw [List.map_append] at hnd
  have hnd2 := (List.nodup_append.mp hnd).2.1
  rw [lits_cells] at hnd2
  have hlm : ((lits hds cds).map (fun x => lcell x.1 x.2.1 x.2.2.1 x.2.2.2)).map Prod.fst = (lits hds cds).map Prod.fst := by
    rw [List.map_map]
    rfl
  have hnd3 : (z :: a :: y1 :: y2 :: (lits hds cds).map Prod.fst).Nodup := by
    rw [← hlm]
    exact hnd2
  obtain ⟨n1, hnd4⟩ := List.nodup_cons.mp hnd3
  obtain ⟨n2, hnd5⟩ := List.nodup_cons.mp hnd4
  have hnl : ((lits hds cds).map Prod.fst).Nodup := (List.nodup_cons.mp (List.nodup_cons.mp hnd5).2).2
  have hza : ¬ z = a := fun e => n1 (by rw [e]; exact List.mem_cons_self)
  have hla : ∀ x ∈ lits hds cds, ¬ x.1 = a ∧ ¬ x.1 = z := fun x hx => by
    have hm : x.1 ∈ (lits hds cds).map Prod.fst := List.mem_map_of_mem hx
    exact ⟨fun e => n2 (by rw [← e]; exact List.mem_cons_of_mem _ (List.mem_cons_of_mem _ hm)), fun e => n1 (by rw [← e]; exact List.mem_cons_of_mem _ (List.mem_cons_of_mem _ (List.mem_cons_of_mem _ hm)))⟩
  have epw := mk_pw (y1 := y1) (y2 := y2) (K := K) (pa := pa) (lo := lo) (up := up) (sp := sp) (we := we) (le := le) (zf := zf) ty hnl hza hla
  -- literals by their places
  have hH : ∀ i, i < hds.length → ∃ x ∈ hds, hds[i]? = some x ∧ hA (mkP a z y1 y2 K pa lo up sp we le hds cds zf) a i = x.1 ∧ pF (mkP a z y1 y2 K pa lo up sp we le hds cds zf) a 0 i = some x.1 ∧ ∀ j, pI (mkP a z y1 y2 K pa lo up sp we le hds cds zf) x.1 j = lgi (104, nI x.2, 0) j := fun i hi => by
    have e : hds[i]? = some hds[i] := List.getElem?_eq_getElem hi
    have hx : hds[i] ∈ hds := List.getElem_mem hi
    have hf : pF (mkP a z y1 y2 K pa lo up sp we le hds cds zf) a 0 i = some hds[i].1 := by
      show hF hds i = _
      unfold hF
      rw [e]
      rfl
    have hm : (hds[i].1, (104 : Int32), nI hds[i].2, (0 : Int32)) ∈ lits hds cds := List.mem_append_left _ (List.mem_map_of_mem (f := fun x : Nat × Nat => (x.1, (104 : Int32), nI x.2, (0 : Int32))) hx)
    refine ⟨hds[i], hx, e, ?_, hf, fun j => mk_l hnl hm (hla _ hm).1 (hla _ hm).2 j⟩
    unfold hA
    rw [hf]
    rfl
  have hC : ∀ i, i < cds.length → ∃ x ∈ cds, cds[i]? = some x ∧ cA (mkP a z y1 y2 K pa lo up sp we le hds cds zf) a i = x.1 ∧ pF (mkP a z y1 y2 K pa lo up sp we le hds cds zf) a 1 i = some x.1 ∧ ∀ j, pI (mkP a z y1 y2 K pa lo up sp we le hds cds zf) x.1 j = lgi (x.2.1, nI x.2.2.1, x.2.2.2) j := fun i hi => by
    have e : cds[i]? = some cds[i] := List.getElem?_eq_getElem hi
    have hx : cds[i] ∈ cds := List.getElem_mem hi
    have hf : pF (mkP a z y1 y2 K pa lo up sp we le hds cds zf) a 1 i = some cds[i].1 := by
      show cF cds i = _
      unfold cF
      rw [e]
      rfl
    have hm : (cds[i].1, cds[i].2.1, nI cds[i].2.2.1, cds[i].2.2.2) ∈ lits hds cds := List.mem_append_right _ (List.mem_map_of_mem (f := fun x : Nat × Int32 × Nat × Int32 => (x.1, x.2.1, nI x.2.2.1, x.2.2.2)) hx)
    refine ⟨cds[i], hx, e, ?_, hf, fun j => mk_l hnl hm (hla _ hm).1 (hla _ hm).2 j⟩
    unfold cA
    rw [hf]
    rfl
  have lok : ∀ (q p : Nat) (K' B' : Int32), p < n → (∀ j, pI (mkP a z y1 y2 K pa lo up sp we le hds cds zf) q j = lgi (K', nI p, B') j) → lOK (mkP a z y1 y2 K pa lo up sp we le hds cds zf) n q ∧ pd (mkP a z y1 y2 K pa lo up sp we le hds cds zf) q = p := fun q p K' B' hp g => by
    have hpd : pd (mkP a z y1 y2 K pa lo up sp we le hds cds zf) q = p := by
      unfold pd
      rw [g 1]
      exact kI_nat (by omega)
    refine ⟨⟨g 3, g 4, g 5, g 6, g 7, ?_, ?_⟩, hpd⟩
    · rw [hpd]
      exact g 1
    · rw [hpd]
      exact hp
  have hm : ∀ j, pI (mkP a z y1 y2 K pa lo up sp we le hds cds zf) z j = zf j := fun j => mk_z hza j
  have hma : ∀ j, pI (mkP a z y1 y2 K pa lo up sp we le hds cds zf) a j = rlI K pa lo up sp we le hds.length cds.length j := fun j => mk_a j
  have smz : ∀ x : Int32, (∀ p, bt x p = true → p < n) → sm x := fun x g i hi => by
    cases e : bt x i with
    | false => rfl
    | true => have := g i e; omega
  refine ⟨mkP a z y1 y2 K pa lo up sp we le hds cds zf, rfl, rfl, ?_, ?_, ?_, hm, ?_, ?_⟩
  · -- what stands in an array is a literal
    intro q hq j i b hb
    rcases Nat.eq_zero_or_pos j with rfl | hj
    · have hb' : hF hds i = some b := hb
      by_cases g : i < hds.length
      · obtain ⟨x, x1, x2, x3, x4, -⟩ := hH i g
        have : some b = some x.1 := hb'.symm.trans x4
        rw [Option.some.inj this]
        exact List.mem_map_of_mem (f := Prod.fst) (List.mem_append_left _ (List.mem_map_of_mem (f := fun x : Nat × Nat => (x.1, (104 : Int32), nI x.2, (0 : Int32))) x1))
      · unfold hF at hb'
        rw [List.getElem?_eq_none (by omega)] at hb'
        cases hb'
    · have h0 : pF (mkP a z y1 y2 K pa lo up sp we le hds cds zf) q j = cF cds := if_neg (show ¬ j = 0 by omega)
      have hb' : cF cds i = some b := by
        rw [← h0]
        exact hb
      by_cases g : i < cds.length
      · obtain ⟨x, x1, x2, x3, x4, -⟩ := hC i g
        have : some b = some x.1 := hb'.symm.trans x4
        rw [Option.some.inj this]
        exact List.mem_map_of_mem (f := Prod.fst) (List.mem_append_right _ (List.mem_map_of_mem (f := fun x : Nat × Int32 × Nat × Int32 => (x.1, x.2.1, nI x.2.2.1, x.2.2.2)) x1))
      · unfold cF at hb'
        rw [List.getElem?_eq_none (by omega)] at hb'
        cases hb'
  · -- the rule
    refine ⟨hn6, by rw [hma 0]; exact hK, by rw [hm 0, hma 0]; exact hz0, by rw [hma 1]; exact hpa, by rw [hma 4]; exact hsp, fun e => ?_, fun e => ?_, ⟨hh, hma 8, fun e => hh0 ((hma 0).symm.trans e), fun i hi => ?_, fun p => ?_⟩, hc, hma 10, fun i hi => ?_, fun p => ?_, fun p => ?_, fun p => ?_, fun p => ?_⟩
    · obtain ⟨g1, g2⟩ := h99 ((hma 0).symm.trans e)
      rw [hma 2, hma 3, hm 2, hm 3]
      exact ⟨g1, g2⟩
    · obtain ⟨g1, g2⟩ := h119 ((hma 0).symm.trans e)
      rw [hma 5, hma 6, hm 2, hm 3]
      exact ⟨g1, g2⟩
    · obtain ⟨x, x1, x2, x3, x4, x5⟩ := hH i hi
      rw [x3]
      exact ⟨x4, (lok x.1 x.2 104 0 (hhp x x1) x5).1⟩
    · rw [hm 1, hz1 p]
      constructor
      · rintro ⟨x, x1, rfl⟩
        obtain ⟨i, hi⟩ := List.getElem?_of_mem x1
        have hil : i < hds.length := (List.getElem?_eq_some_iff.mp hi).1
        obtain ⟨y, y1', y2', y3, y4, y5⟩ := hH i hil
        have : y = x := Option.some.inj (y2'.symm.trans hi)
        subst this
        exact ⟨i, hil, by rw [y3]; exact (lok y.1 y.2 104 0 (hhp y x1) y5).2⟩
      · rintro ⟨i, hil, e⟩
        obtain ⟨y, y1', y2', y3, y4, y5⟩ := hH i hil
        rw [y3, (lok y.1 y.2 104 0 (hhp y y1') y5).2] at e
        exact ⟨y, y1', e⟩
    · obtain ⟨x, x1, x2, x3, x4, x5⟩ := hC i hi
      rw [x3]
      refine ⟨x4, (lok x.1 x.2.2.1 x.2.1 x.2.2.2 (hcp x x1).1 x5).1, ?_⟩
      have k0 := x5 0
      have k2 := x5 2
      unfold kOK
      rw [k0, k2]
      exact (hcp x x1).2
    all_goals
      first
      | rw [hm 4, hz4 p]
      | rw [hm 5, hz5 p]
      | rw [hm 8, hz8 p]
      | rw [hm 9, hz9 p]
      constructor
      · rintro ⟨x, x1, e0, rfl⟩
        obtain ⟨i, hi⟩ := List.getElem?_of_mem x1
        have hil : i < cds.length := (List.getElem?_eq_some_iff.mp hi).1
        obtain ⟨y, y1', y2', y3, y4, y5⟩ := hC i hil
        have : y = x := Option.some.inj (y2'.symm.trans hi)
        subst this
        exact ⟨i, hil, by rw [y3, y5 0]; exact e0, by rw [y3]; exact (lok y.1 y.2.2.1 y.2.1 y.2.2.2 (hcp y x1).1 y5).2⟩
      · rintro ⟨i, hil, e0, e⟩
        obtain ⟨y, y1', y2', y3, y4, y5⟩ := hC i hil
        rw [y3] at e0 e
        rw [(lok y.1 y.2.2.1 y.2.1 y.2.2.2 (hcp y y1').1 y5).2] at e
        rw [y5 0] at e0
        exact ⟨y, y1', e0, e⟩
  · -- the law's row
    refine ⟨by rw [hm 0, hz0]; exact hK, by rw [hm 7]; exact hz7, by rw [hm 6, hm 8]; exact hz6, ?_, ?_, ?_, ?_, ?_, by rw [hm 2]; exact hz2.1, by rw [hm 2]; exact hz2.2, by rw [hm 3]; exact hz3.1, by rw [hm 3]; exact hz3.2⟩
    · rw [hm 1]
      refine smz _ fun p hp => ?_
      obtain ⟨x, x1, rfl⟩ := (hz1 p).mp hp
      exact hhp x x1
    · rw [hm 4]
      refine smz _ fun p hp => ?_
      obtain ⟨x, x1, -, rfl⟩ := (hz4 p).mp hp
      exact (hcp x x1).1
    · rw [hm 5]
      refine smz _ fun p hp => ?_
      obtain ⟨x, x1, -, rfl⟩ := (hz5 p).mp hp
      exact (hcp x x1).1
    · rw [hm 8]
      refine smz _ fun p hp => ?_
      obtain ⟨x, x1, -, rfl⟩ := (hz8 p).mp hp
      exact (hcp x x1).1
    · rw [hm 9]
      refine smz _ fun p hp => ?_
      obtain ⟨x, x1, -, rfl⟩ := (hz9 p).mp hp
      exact (hcp x x1).1
  · intro D cl H hP
    rw [epw]
    exact vP_mem hP fun x hx => ar_perm.mem_iff.mpr hx
  · rw [epw]
    exact vD_perm hD ar_perm
theorem lits_addH (hds : List (Nat × Nat)) (x : Nat × Nat) : (hds.map lH ++ ([] : List (Nat × Int32 × Nat × Int32)).map lC) ++ [lH x] = (hds ++ [x]).map lH ++ ([] : List (Nat × Int32 × Nat × Int32)).map lC := by
  simp
theorem lits_addC (hds : List (Nat × Nat)) (cds : List (Nat × Int32 × Nat × Int32)) (x : Nat × Int32 × Nat × Int32) : (hds.map lH ++ cds.map lC) ++ [lC x] = hds.map lH ++ (cds ++ [x]).map lC := by
  simp
/-- what is known of the rule at hand and its row -/
def rwF (n : Nat) (K lo up we le : Int32) (hds : List (Nat × Nat)) (cds : List (Nat × Int32 × Nat × Int32)) (zf : Nat → Int32) : Prop := (K = 100 ∨ K = 99 ∨ K = 119) ∧ zf 0 = K ∧ (K = 99 → lo = zf 2 ∧ up = zf 3) ∧ (K = 119 → we = zf 2 ∧ le = zf 3) ∧ hds.length ≤ 2 ∧ (K = 119 → hds.length = 0) ∧ (∀ x ∈ hds, x.2 < n) ∧ (∀ p, bt (zf 1) p = true ↔ ∃ x ∈ hds, x.2 = p) ∧ (∀ x ∈ cds, x.2.2.1 < n ∧ (x.2.1 = 116 ∨ x.2.1 = 102 ∨ x.2.1 = 103 ∧ x.2.2.2 = 1 ∨ x.2.1 = 108 ∧ x.2.2.2 = 0)) ∧ (∀ p, bt (zf 4) p = true ↔ ∃ x ∈ cds, x.2.1 = 116 ∧ x.2.2.1 = p) ∧ (∀ p, bt (zf 5) p = true ↔ ∃ x ∈ cds, x.2.1 = 102 ∧ x.2.2.1 = p) ∧ (∀ p, bt (zf 8) p = true ↔ ∃ x ∈ cds, x.2.1 = 103 ∧ x.2.2.1 = p) ∧ (∀ p, bt (zf 9) p = true ↔ ∃ x ∈ cds, x.2.1 = 108 ∧ x.2.2.1 = p) ∧ zf 6 = zf 8 ∧ zf 7 = 0 ∧ (-4 ≤ (zf 2).toInt ∧ (zf 2).toInt ≤ 4) ∧ 0 ≤ (zf 3).toInt ∧ (zf 3).toInt ≤ 3
section RF
variable {n : Nat} {K lo up we le : Int32} {hds : List (Nat × Nat)} {cds : List (Nat × Int32 × Nat × Int32)} {zf : Nat → Int32} {q p : Nat}
theorem rwF_init {x2 x3 : Int32} (hK : K = 100 ∨ K = 99 ∨ K = 119) (h2 : -4 ≤ x2.toInt ∧ x2.toInt ≤ 4) (h3 : 0 ≤ x3.toInt ∧ x3.toInt ≤ 3) (h99 : K = 99 → lo = x2 ∧ up = x3) (h119 : K = 119 → we = x2 ∧ le = x3) : rwF n K lo up we le [] [] (upd (upd (upd (fun _ => 0) (0 : Int32).toNatClampNeg K) (2 : Int32).toNatClampNeg x2) (3 : Int32).toNatClampNeg x3) := by
  rw [z0, z2, z3]
  have z : ∀ (x : Int32) (p : Nat), x = 0 → (bt x p = true ↔ False) := fun x p hx => by rw [hx, b_0]; simp
  refine ⟨hK, rfl, h99, h119, by decide, fun _ => rfl, fun x hx => absurd hx List.not_mem_nil, fun p => ?_, fun x hx => absurd hx List.not_mem_nil, fun p => ?_, fun p => ?_, fun p => ?_, fun p => ?_, rfl, rfl, h2, h3⟩
  all_goals
    refine (z _ p rfl).trans ⟨False.elim, fun ⟨x, hx, _⟩ => absurd hx List.not_mem_nil⟩
theorem rwF_H (h : rwF n K lo up we le hds [] zf) {q p : Nat} (hp : p < n) (hl : hds.length < 2) (hn : p < 32) (hK : ¬ K = 119) : rwF n K lo up we le (hds ++ [(q, p)]) [] (upd zf (1 : Int32).toNatClampNeg (zf (1 : Int32).toNatClampNeg ||| ((1 : Int32) <<< (nI p &&& 31)))) := by
  rw [z1]
  obtain ⟨g1, g2, g3, g4, g5, g6, g7, g8, g9, g10, g11, g12, g13, g14, g15, g16, g17⟩ := h
  have hlen : (hds ++ [(q, p)]).length = hds.length + 1 := by rw [List.length_append]; rfl
  refine ⟨g1, g2, g3, fun e => absurd e hK, by rw [hlen]; omega, fun e => absurd e hK, fun x hx => ?_, fun i => ?_, g9, g10, g11, g12, g13, g14, g15, g16, g17⟩
  · rcases List.mem_append.mp hx with g | g
    · exact g7 x g
    · rw [List.mem_singleton.mp g]
      exact hp
  · rw [uu_same, b_or, b_one' hn]
    constructor
    · intro e
      rcases (Bool.or_eq_true _ _).mp e with e | e
      · obtain ⟨x, x1, x2⟩ := (g8 i).mp e
        exact ⟨x, List.mem_append_left _ x1, x2⟩
      · exact ⟨(q, p), List.mem_append_right _ (List.mem_singleton.mpr rfl), (of_decide_eq_true e).symm⟩
    · rintro ⟨x, hx, x2⟩
      rcases List.mem_append.mp hx with g | g
      · rw [(g8 i).mpr ⟨x, g, x2⟩]
        rfl
      · rw [List.mem_singleton.mp g] at x2
        rw [decide_eq_true (show i = p from x2.symm), Bool.or_true]
theorem rwF_cond (h : rwF n K lo up we le hds cds zf) {q p : Nat} {kd bd : Int32} {zf' : Nat → Int32} (hp : p < n) (hk : kd = 116 ∨ kd = 102 ∨ kd = 103 ∧ bd = 1 ∨ kd = 108 ∧ bd = 0) (e0 : zf' 0 = zf 0) (e1 : zf' 1 = zf 1) (e2 : zf' 2 = zf 2) (e3 : zf' 3 = zf 3) (e7 : zf' 7 = zf 7) (e6 : zf' 6 = zf' 8) (b4 : ∀ i, bt (zf' 4) i = (bt (zf 4) i || (decide (kd = 116) && decide (i = p)))) (b5 : ∀ i, bt (zf' 5) i = (bt (zf 5) i || (decide (kd = 102) && decide (i = p)))) (b8 : ∀ i, bt (zf' 8) i = (bt (zf 8) i || (decide (kd = 103) && decide (i = p)))) (b9 : ∀ i, bt (zf' 9) i = (bt (zf 9) i || (decide (kd = 108) && decide (i = p)))) : rwF n K lo up we le hds (cds ++ [(q, kd, p, bd)]) zf' := by
  obtain ⟨g1, g2, g3, g4, g5, g6, g7, g8, g9, g10, g11, g12, g13, g14, g15, g16, g17⟩ := h
  have bits : ∀ (x x' c : Int32), (∀ i, bt x' i = (bt x i || (decide (kd = c) && decide (i = p)))) → (∀ i, bt x i = true ↔ ∃ y ∈ cds, y.2.1 = c ∧ y.2.2.1 = i) → ∀ i, bt x' i = true ↔ ∃ y ∈ cds ++ [(q, kd, p, bd)], y.2.1 = c ∧ y.2.2.1 = i := fun x x' c hb hx i => by
    rw [hb i]
    constructor
    · intro e
      rcases (Bool.or_eq_true _ _).mp e with e | e
      · obtain ⟨y, y1, y2⟩ := (hx i).mp e
        exact ⟨y, List.mem_append_left _ y1, y2⟩
      · have e' := (Bool.and_eq_true _ _).mp e
        exact ⟨(q, kd, p, bd), List.mem_append_right _ (List.mem_singleton.mpr rfl), of_decide_eq_true e'.1, (of_decide_eq_true e'.2).symm⟩
    · rintro ⟨y, hy, y2, y3⟩
      rcases List.mem_append.mp hy with g | g
      · rw [(hx i).mpr ⟨y, g, y2, y3⟩]
        rfl
      · rw [List.mem_singleton.mp g] at y2 y3
        rw [decide_eq_true (show kd = c from y2), decide_eq_true (show i = p from y3.symm)]
        simp
  refine ⟨g1, by rw [e0]; exact g2, fun e => by rw [e2, e3]; exact g3 e, fun e => by rw [e2, e3]; exact g4 e, g5, g6, g7, fun i => by rw [e1]; exact g8 i, fun x hx => ?_, bits _ _ _ b4 g10, bits _ _ _ b5 g11, bits _ _ _ b8 g12, bits _ _ _ b9 g13, e6, by rw [e7]; exact g15, by rw [e2]; exact g16, by rw [e3]; exact g17⟩
  rcases List.mem_append.mp hx with g | g
  · exact g9 x g
  · rw [List.mem_singleton.mp g]
    exact ⟨hp, hk⟩
theorem b_or0 (x : Int32) (i : Nat) : bt (x ||| 0) i = bt x i := by rw [b_or, b_0, Bool.or_false]
theorem rwF_T (h : rwF n K lo up we le hds cds zf) {q p : Nat} (hp : p < n) (hn : p < 32) : rwF n K lo up we le hds (cds ++ [(q, 116, p, 0)]) (upd (upd zf (4 : Int32).toNatClampNeg (zf (4 : Int32).toNatClampNeg ||| ((1 : Int32) <<< (nI p &&& 31)))) (5 : Int32).toNatClampNeg ((upd zf (4 : Int32).toNatClampNeg (zf (4 : Int32).toNatClampNeg ||| ((1 : Int32) <<< (nI p &&& 31)))) (5 : Int32).toNatClampNeg ||| 0)) := by
  rw [z4, z5]
  refine rwF_cond h hp (Or.inl rfl) rfl rfl rfl rfl rfl h.2.2.2.2.2.2.2.2.2.2.2.2.2.1 (fun i => ?_) (fun i => ?_) (fun i => ?_) (fun i => ?_)
  · show bt (zf 4 ||| _) i = _
    rw [b_or, b_one' hn]
    rfl
  · show bt (zf 5 ||| 0) i = _
    rw [b_or0]
    simp
  · show bt (zf 8) i = _
    simp
  · show bt (zf 9) i = _
    simp
theorem rwF_F (h : rwF n K lo up we le hds cds zf) {q p : Nat} (hp : p < n) (hn : p < 32) : rwF n K lo up we le hds (cds ++ [(q, 102, p, 0)]) (upd (upd zf (4 : Int32).toNatClampNeg (zf (4 : Int32).toNatClampNeg ||| 0)) (5 : Int32).toNatClampNeg ((upd zf (4 : Int32).toNatClampNeg (zf (4 : Int32).toNatClampNeg ||| 0)) (5 : Int32).toNatClampNeg ||| ((1 : Int32) <<< (nI p &&& 31)))) := by
  rw [z4, z5]
  refine rwF_cond h hp (Or.inr (Or.inl rfl)) rfl rfl rfl rfl rfl h.2.2.2.2.2.2.2.2.2.2.2.2.2.1 (fun i => ?_) (fun i => ?_) (fun i => ?_) (fun i => ?_)
  · show bt (zf 4 ||| 0) i = _
    rw [b_or0]
    simp
  · show bt (zf 5 ||| _) i = _
    rw [b_or, b_one' hn]
    rfl
  · show bt (zf 8) i = _
    simp
  · show bt (zf 9) i = _
    simp
theorem rwF_G (h : rwF n K lo up we le hds cds zf) {q p : Nat} (hp : p < n) (hn : p < 32) : rwF n K lo up we le hds (cds ++ [(q, 103, p, 1)]) (upd (upd (upd zf (8 : Int32).toNatClampNeg (zf (8 : Int32).toNatClampNeg ||| ((1 : Int32) <<< (nI p &&& 31)))) (6 : Int32).toNatClampNeg ((upd zf (8 : Int32).toNatClampNeg (zf (8 : Int32).toNatClampNeg ||| ((1 : Int32) <<< (nI p &&& 31)))) (6 : Int32).toNatClampNeg ||| ((1 : Int32) <<< (nI p &&& 31)))) (9 : Int32).toNatClampNeg ((upd (upd zf (8 : Int32).toNatClampNeg (zf (8 : Int32).toNatClampNeg ||| ((1 : Int32) <<< (nI p &&& 31)))) (6 : Int32).toNatClampNeg ((upd zf (8 : Int32).toNatClampNeg (zf (8 : Int32).toNatClampNeg ||| ((1 : Int32) <<< (nI p &&& 31)))) (6 : Int32).toNatClampNeg ||| ((1 : Int32) <<< (nI p &&& 31)))) (9 : Int32).toNatClampNeg ||| 0)) := by
  rw [z8, z6, z9]
  refine rwF_cond h hp (Or.inr (Or.inr (Or.inl ⟨rfl, rfl⟩))) rfl rfl rfl rfl rfl ?_ (fun i => ?_) (fun i => ?_) (fun i => ?_) (fun i => ?_)
  · show zf 6 ||| _ = zf 8 ||| _
    rw [h.2.2.2.2.2.2.2.2.2.2.2.2.2.1]
  · show bt (zf 4) i = _
    simp
  · show bt (zf 5) i = _
    simp
  · show bt (zf 8 ||| _) i = _
    rw [b_or, b_one' hn]
    rfl
  · show bt (zf 9 ||| 0) i = _
    rw [b_or0]
    simp
theorem rwF_L (h : rwF n K lo up we le hds cds zf) {q p : Nat} (hp : p < n) (hn : p < 32) : rwF n K lo up we le hds (cds ++ [(q, 108, p, 0)]) (upd (upd (upd zf (8 : Int32).toNatClampNeg (zf (8 : Int32).toNatClampNeg ||| 0)) (6 : Int32).toNatClampNeg ((upd zf (8 : Int32).toNatClampNeg (zf (8 : Int32).toNatClampNeg ||| 0)) (6 : Int32).toNatClampNeg ||| 0)) (9 : Int32).toNatClampNeg ((upd (upd zf (8 : Int32).toNatClampNeg (zf (8 : Int32).toNatClampNeg ||| 0)) (6 : Int32).toNatClampNeg ((upd zf (8 : Int32).toNatClampNeg (zf (8 : Int32).toNatClampNeg ||| 0)) (6 : Int32).toNatClampNeg ||| 0)) (9 : Int32).toNatClampNeg ||| ((1 : Int32) <<< (nI p &&& 31)))) := by
  rw [z8, z6, z9]
  refine rwF_cond h hp (Or.inr (Or.inr (Or.inr ⟨rfl, rfl⟩))) rfl rfl rfl rfl rfl ?_ (fun i => ?_) (fun i => ?_) (fun i => ?_) (fun i => ?_)
  · show zf 6 ||| 0 = zf 8 ||| 0
    rw [h.2.2.2.2.2.2.2.2.2.2.2.2.2.1]
  · show bt (zf 4) i = _
    simp
  · show bt (zf 5) i = _
    simp
  · show bt (zf 8 ||| 0) i = _
    rw [b_or0]
    simp
  · show bt (zf 9 ||| _) i = _
    rw [b_or, b_one' hn]
    rfl
end RF
end PO
