/-! the law, 7: a pool beside another made one -/
section PJ
abbrev m3 (p : pT) (q : Nat) : Prop := q ∈ pRA p ∨ q ∈ pLA p ∨ q ∈ pZA p
def pJ (p p' : pT) : pT := ((pRA p ++ pRA p', pLA p ++ pLA p', pZA p ++ pZA p'), (fun q j => if m3 p' q then pI p' q j else pI p q j), (fun q j => if m3 p' q then pA p' q j else pA p q j), fun q j => if m3 p' q then pF p' q j else pF p q j)
def ap (p p' : pT) : Prop := ∀ q, m3 p q → ¬ m3 p' q
variable {p p' : pT}
theorem jI_in {q : Nat} (h : m3 p' q) : pI (pJ p p') q = pI p' q := funext fun _ => if_pos h
theorem jA_in {q : Nat} (h : m3 p' q) : pA (pJ p p') q = pA p' q := funext fun _ => if_pos h
theorem jF_in {q : Nat} (h : m3 p' q) : pF (pJ p p') q = pF p' q := funext fun _ => if_pos h
theorem jI_out {q : Nat} (h : ¬ m3 p' q) : pI (pJ p p') q = pI p q := funext fun _ => if_neg h
theorem jA_out {q : Nat} (h : ¬ m3 p' q) : pA (pJ p p') q = pA p q := funext fun _ => if_neg h
theorem jF_out {q : Nat} (h : ¬ m3 p' q) : pF (pJ p p') q = pF p q := funext fun _ => if_neg h
theorem fm_congr {α β : Type} {f g : α → List β} : ∀ {l : List α}, (∀ a ∈ l, f a = g a) → l.flatMap f = l.flatMap g
  | [], _ => rfl
  | a :: l, h => by
    rw [List.flatMap_cons, List.flatMap_cons, h a List.mem_cons_self, fm_congr fun b hb => h b (List.mem_cons_of_mem _ hb)]
theorem perm4 {α : Type} (A1 A2 X1 X2 : List α) : ((A1 ++ A2) ++ (X1 ++ X2)).Perm ((A1 ++ X1) ++ (A2 ++ X2)) := by
  rw [List.append_assoc, List.append_assoc]
  refine List.Perm.append_left A1 ?_
  rw [← List.append_assoc, ← List.append_assoc]
  exact List.Perm.append_right X2 List.perm_append_comm
theorem perm6 {α : Type} (A1 A2 B1 B2 C1 C2 : List α) : ((A1 ++ A2) ++ ((B1 ++ B2) ++ (C1 ++ C2))).Perm ((A1 ++ (B1 ++ C1)) ++ (A2 ++ (B2 ++ C2))) := (List.Perm.append_left _ (perm4 B1 B2 C1 C2)).trans (perm4 A1 A2 (B1 ++ C1) (B2 ++ C2))
theorem pw_J {ty : Nat → ClassId} (h : ap p p') : (pw ty (pJ p p')).Perm (pw ty p ++ pw ty p') := by
  have r1 : ∀ a ∈ pRA p, pcR (pJ p p') a = pcR p a ∧ (∀ j n, pcA ty (pJ p p') a j n = pcA ty p a j n) := fun a ha => by
    have g := h a (Or.inl ha)
    refine ⟨?_, fun j n => ?_⟩
    · unfold pcR
      rw [jI_out g, jA_out g]
    · unfold pcA
      rw [jA_out g, jF_out g]
  have r2 : ∀ a ∈ pRA p', pcR (pJ p p') a = pcR p' a ∧ (∀ j n, pcA ty (pJ p p') a j n = pcA ty p' a j n) := fun a ha => by
    have g : m3 p' a := Or.inl ha
    refine ⟨?_, fun j n => ?_⟩
    · unfold pcR
      rw [jI_in g, jA_in g]
    · unfold pcA
      rw [jA_in g, jF_in g]
  have e1 : (pRA p ++ pRA p').flatMap (fun a => [pcR (pJ p p') a, pcA ty (pJ p p') a 0 2, pcA ty (pJ p p') a 1 5]) = (pRA p).flatMap (fun a => [pcR p a, pcA ty p a 0 2, pcA ty p a 1 5]) ++ (pRA p').flatMap (fun a => [pcR p' a, pcA ty p' a 0 2, pcA ty p' a 1 5]) := by
    rw [List.flatMap_append]
    rw [fm_congr (l := pRA p) fun a ha => show [pcR (pJ p p') a, pcA ty (pJ p p') a 0 2, pcA ty (pJ p p') a 1 5] = [pcR p a, pcA ty p a 0 2, pcA ty p a 1 5] by rw [(r1 a ha).1, (r1 a ha).2, (r1 a ha).2]]
    rw [fm_congr (l := pRA p') fun a ha => show [pcR (pJ p p') a, pcA ty (pJ p p') a 0 2, pcA ty (pJ p p') a 1 5] = [pcR p' a, pcA ty p' a 0 2, pcA ty p' a 1 5] by rw [(r2 a ha).1, (r2 a ha).2, (r2 a ha).2]]
  have e2 : (pLA p ++ pLA p').map (pcL (pJ p p')) = (pLA p).map (pcL p) ++ (pLA p').map (pcL p') := by
    rw [List.map_append]
    congr 1
    · refine List.map_congr_left fun a ha => ?_
      unfold pcL
      rw [jI_out (h a (Or.inr (Or.inl ha)))]
    · refine List.map_congr_left fun a ha => ?_
      unfold pcL
      rw [jI_in (Or.inr (Or.inl ha))]
  have e3 : (pZA p ++ pZA p').map (pcZ ty (pJ p p')) = (pZA p).map (pcZ ty p) ++ (pZA p').map (pcZ ty p') := by
    rw [List.map_append]
    congr 1
    · refine List.map_congr_left fun a ha => ?_
      unfold pcZ
      rw [jI_out (h a (Or.inr (Or.inr ha)))]
    · refine List.map_congr_left fun a ha => ?_
      unfold pcZ
      rw [jI_in (Or.inr (Or.inr ha))]
  show ((pRA p ++ pRA p').flatMap _ ++ ((pLA p ++ pLA p').map _ ++ (pZA p ++ pZA p').map _)).Perm _
  rw [e1, e2, e3]
  exact perm6 _ _ _ _ _ _
theorem pOK_J (h : ap p p') (h1 : pOK p) (h2 : pOK p') : pOK (pJ p p') := fun a ha j i b hb => by
  rcases List.mem_append.mp ha with g | g
  · rw [jF_out (h a (Or.inl g))] at hb
    exact List.mem_append_left _ (h1 a g j i b hb)
  · rw [jF_in (Or.inl g)] at hb
    exact List.mem_append_right _ (h2 a g j i b hb)
/-- a rule and its row in a pool that holds the same of them -/
theorem rOK_of {P Q : pT} {n a z h c : Nat} (ea : pI Q a = pI P a) (ef : pF Q a = pF P a) (ez : pI Q z = pI P z) (el : ∀ j i b, pF P a j i = some b → pI Q b = pI P b) (H : rOK P n a z h c) : rOK Q n a z h c := by
  have eh : ∀ i, hA Q a i = hA P a i := fun i => by unfold hA; rw [ef]
  have ec : ∀ i, cA Q a i = cA P a i := fun i => by unfold cA; rw [ef]
  have l1 : ∀ b, pI Q b = pI P b → lOK P n b → lOK Q n b := fun b e g => by
    unfold lOK pd at g ⊢
    rw [e]
    exact g
  have l2 : ∀ b, pI Q b = pI P b → pd Q b = pd P b := fun b e => by unfold pd; rw [e]
  have l3 : ∀ b, pI Q b = pI P b → kOK P b → kOK Q b := fun b e g => by
    unfold kOK at g ⊢
    rw [e]
    exact g
  obtain ⟨r1, r2, r3, r4, r5, r6, r7, ⟨s1, s2, s3, s4, s5⟩, ⟨t1, t2, t3, t4, t5, t8, t9⟩⟩ := H
  have key : ∀ (K : Int32) (p' : Nat), (∃ i, i < c ∧ pI P (cA P a i) 0 = K ∧ pd P (cA P a i) = p') ↔ ∃ i, i < c ∧ pI Q (cA Q a i) 0 = K ∧ pd Q (cA Q a i) = p' := fun K p' => by
    constructor
    · rintro ⟨i, hi, e1, e2⟩
      have g := el 1 i _ (t3 i hi).1
      exact ⟨i, hi, by rw [ec, g]; exact e1, by rw [ec, l2 _ g]; exact e2⟩
    · rintro ⟨i, hi, e1, e2⟩
      have g := el 1 i _ (t3 i hi).1
      rw [ec, g] at e1
      rw [ec, l2 _ g] at e2
      exact ⟨i, hi, e1, e2⟩
  refine ⟨r1, by rw [ea]; exact r2, by rw [ez, ea]; exact r3, by rw [ea]; exact r4, by rw [ea]; exact r5, by rw [ea, ez]; exact r6, by rw [ea, ez]; exact r7, ⟨s1, by rw [ea]; exact s2, by rw [ea]; exact s3, fun i hi => ?_, fun p' => ?_⟩, ⟨t1, by rw [ea]; exact t2, fun i hi => ?_, fun p' => ?_, fun p' => ?_, fun p' => ?_, fun p' => ?_⟩⟩
  · obtain ⟨u1, u2⟩ := s4 i hi
    rw [eh, ef]
    exact ⟨u1, l1 _ (el 0 i _ u1) u2⟩
  · rw [ez, s5 p']
    constructor
    · rintro ⟨i, hi, e⟩
      exact ⟨i, hi, by rw [eh, l2 _ (el 0 i _ (s4 i hi).1)]; exact e⟩
    · rintro ⟨i, hi, e⟩
      rw [eh, l2 _ (el 0 i _ (s4 i hi).1)] at e
      exact ⟨i, hi, e⟩
  · obtain ⟨u1, u2, u3⟩ := t3 i hi
    rw [ec, ef]
    exact ⟨u1, l1 _ (el 1 i _ u1) u2, l3 _ (el 1 i _ u1) u3⟩
  · rw [ez, t4 p']
    exact key 116 p'
  · rw [ez, t5 p']
    exact key 102 p'
  · rw [ez, t8 p']
    exact key 103 p'
  · rw [ez, t9 p']
    exact key 108 p'
theorem zOK_of {P Q : pT} {z : Nat} (ez : pI Q z = pI P z) (H : zOK P z) : zOK Q z := by
  unfold zOK at H ⊢
  rw [ez]
  exact H
/-- what stands when r rules have been told -/
def RI (n r : Nat) (pp : pT) (rf gf : Nat → Option Nat) : Prop := pOK pp ∧ (∀ i a, rf i = some a → a ∈ pRA pp) ∧ ∀ i, i < r → ∃ a z h c, rf i = some a ∧ gf i = some z ∧ a ∈ pRA pp ∧ z ∈ pZA pp ∧ rOK pp n a z h c ∧ zOK pp z
theorem RI_0 (n : Nat) : RI n 0 (([], [], []), (fun _ _ => 0), (fun _ _ => 0), fun _ _ _ => none) (fun _ => none) (fun _ => none) := by
  refine ⟨?_, ?_, ?_⟩
  · intro a ha
    exact absurd ha List.not_mem_nil
  · intro i a h
    exact absurd h (fun g => nomatch g)
  · intro i hi
    exact absurd hi (Nat.not_lt_zero i)
theorem RI_s {n r : Nat} {pp : pT} {rf gf : Nat → Option Nat} (H : RI n r pp rf gf) {q : pT} {a z h c : Nat} (hap : ap pp q) (f1 : pRA q = [a]) (f2 : pZA q = [z]) (f3 : pOK q) (f4 : rOK q n a z h c) (f5 : zOK q z) : RI n (r + 1) (pJ pp q) (va_up rf r (some a)) (va_up gf r (some z)) := by
  obtain ⟨H1, H2, H3⟩ := H
  have ia : a ∈ pRA q := by rw [f1]; exact List.mem_singleton.mpr rfl
  have iz : z ∈ pZA q := by rw [f2]; exact List.mem_singleton.mpr rfl
  refine ⟨pOK_J hap H1 f3, fun i b hb => ?_, fun i hi => ?_⟩
  · by_cases g : i = r
    · rw [show va_up rf r (some a) i = some a from if_pos g] at hb
      rw [← Option.some.inj hb]
      exact List.mem_append_right _ ia
    · rw [show va_up rf r (some a) i = rf i from if_neg g] at hb
      exact List.mem_append_left _ (H2 i b hb)
  · by_cases g : i = r
    · refine ⟨a, z, h, c, if_pos g, if_pos g, List.mem_append_right _ ia, List.mem_append_right _ iz, rOK_of (jI_in (Or.inl ia)) (jF_in (Or.inl ia)) (jI_in (Or.inr (Or.inr iz))) (fun j i b hb => jI_in (Or.inr (Or.inl (f3 a ia j i b hb)))) f4, zOK_of (jI_in (Or.inr (Or.inr iz))) f5⟩
    · obtain ⟨a', z', h', c', g1, g2, g3, g4, g5, g6⟩ := H3 i (by omega)
      have oa := hap a' (Or.inl g3)
      have oz := hap z' (Or.inr (Or.inr g4))
      exact ⟨a', z', h', c', (if_neg g).trans g1, (if_neg g).trans g2, List.mem_append_left _ g3, List.mem_append_left _ g4, rOK_of (jI_out oa) (jF_out oa) (jI_out oz) (fun j i b hb => jI_out (hap b (Or.inr (Or.inl (H1 a' g3 j i b hb))))) g5, zOK_of (jI_out oz) g6⟩
theorem RI_pr {n r : Nat} (hr : r ≤ 10) {pp : pT} {rf gf : Nat → Option Nat} (H : RI n r pp rf gf) : prOK pp n rf gf r := by
  obtain ⟨H1, H2, H3⟩ := H
  refine ⟨⟨hr, fun i hi => ?_⟩, fun i hi => ?_⟩
  · obtain ⟨a, z, h, c, g1, g2, g3, g4, g5, g6⟩ := H3 i hi
    exact ⟨z, g2, g6⟩
  · obtain ⟨a, z, h, c, g1, g2, g3, g4, g5, g6⟩ := H3 i hi
    have e1 : rA rf i = a := by unfold rA; rw [g1]; rfl
    have e2 : zR gf i = z := by unfold zR; rw [g2]; rfl
    rw [e1, e2]
    exact ⟨g1, h, c, g5⟩
theorem RI_rr {n r : Nat} (hr : r ≤ 10) {pp : pT} {rf gf : Nat → Option Nat} (H : RI n r pp rf gf) (i : Int32) (h0 : 0 ≤ i.toInt) (h1 : i.toInt < (nI r).toInt) : ∃ a, gf i.toNatClampNeg = some a ∧ a ∈ pZA pp := by
  have h2 : i.toNatClampNeg < r := by
    rw [kI_ti (by omega)] at h1
    show i.toInt.toNat < r
    omega
  obtain ⟨a, z, h, c, g1, g2, g3, g4, g5, g6⟩ := H.2.2 _ h2
  exact ⟨z, g2, g4⟩
/-- the addresses of two pools in one world are apart -/
theorem pw_addr {ty : Nat → ClassId} {p : pT} {q : Nat} (h : m3 p q) : q ∈ (pw ty p).map Prod.fst := by
  rcases h with h | h | h
  · exact List.mem_map_of_mem (f := Prod.fst) (pw_rule (L := []) h)
  · exact List.mem_map_of_mem (f := Prod.fst) (pw_lit (L := []) h)
  · exact List.mem_map_of_mem (f := Prod.fst) (pw_row (L := []) h)
theorem ap_of {A : Nat → Prop} {B : va_W} {ty : Nat → ClassId} {p q : pT} (hD : va_D A ((B ++ pw ty q) ++ pw ty p)) : ap p q := by
  have hn := (dN.mp hD).1
  rw [List.map_append, List.map_append] at hn
  obtain ⟨-, -, h3⟩ := List.nodup_append.mp hn
  intro x hp hq
  exact h3 x (List.mem_append_right _ (pw_addr hq)) x (pw_addr hp) rfl
theorem ap_perm {B : va_W} {ty : Nat → ClassId} {p q : pT} (h : ap p q) : ((B ++ pw ty q) ++ pw ty p).Perm (B ++ pw ty (pJ p q)) := by
  rw [List.append_assoc]
  exact List.Perm.append_left B (List.perm_append_comm.trans (pw_J h).symm)
theorem perm_mid {α : Type} (A B C : List α) : (A ++ (B ++ C)).Perm (A ++ (C ++ B)) := List.Perm.append_left A List.perm_append_comm
theorem perm_end {α : Type} (A P : List α) (x : α) : ((A ++ P) ++ [x]).Perm ((A ++ [x]) ++ P) := by
  rw [List.append_assoc, List.append_assoc]
  exact List.Perm.append_left A List.perm_append_comm
end PJ
