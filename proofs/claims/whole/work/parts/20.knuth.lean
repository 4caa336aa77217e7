section
/-- no R-chain of S is longer than k -/
def gr_NB (R : Nat → Nat → Prop) (k : Nat) (S : List Nat) : Prop := ∀ C : List Nat, List.Sublist C S → C.Pairwise R → C.length ≤ k
/-- some sublist of w of length m has no R-chain longer than k -/
def gr_G (R : Nat → Nat → Prop) (k : Nat) (w : List Nat) (m : Nat) : Prop := ∃ S : List Nat, List.Sublist S w ∧ S.length = m ∧ gr_NB R k S
theorem gr_bad {R : Nat → Nat → Prop} {k : Nat} {S : List Nat} (h : ¬ gr_NB R k S) : ∃ C : List Nat, List.Sublist C S ∧ C.Pairwise R ∧ k < C.length := by
  apply Classical.byContradiction
  intro hn
  apply h
  intro C hC cC
  apply Classical.byContradiction
  intro hl
  exact hn ⟨C, hC, cC, by omega⟩
theorem gr_two {S1 S4 C : List Nat} {p q : Nat} (h : List.Sublist C (S1 ++ p :: q :: S4)) : List.Sublist C (S1 ++ p :: S4) ∨ List.Sublist C (S1 ++ q :: S4) ∨ ∃ A B : List Nat, C = A ++ p :: q :: B ∧ List.Sublist A S1 ∧ List.Sublist B S4 := by
  obtain ⟨A, D, rfl, hA, hD⟩ := List.sublist_append_iff.mp h
  rcases List.sublist_cons_iff.mp hD with hD | ⟨E, rfl, hE⟩
  · exact Or.inr (Or.inl (hA.append hD))
  · rcases List.sublist_cons_iff.mp hE with hE | ⟨B, rfl, hB⟩
    · exact Or.inl (hA.append (hE.cons_cons p))
    · exact Or.inr (Or.inr ⟨A, B, rfl, hA, hB⟩)
theorem gr_triv {R : Nat → Nat → Prop} (ay : ∀ a b, R a b → ¬ R b a) {k m : Nat} {U W : List Nat} {p q : Nat} (pq : R p q) (h : gr_G R k (U ++ p :: q :: W) m) : gr_G R k (U ++ q :: p :: W) m := by
  obtain ⟨S, hS, hm, hb⟩ := h
  rcases gr_two hS with h | h | ⟨A, B, rfl, hA, hB⟩
  · exact ⟨S, h.trans ((List.Sublist.refl U).append ((List.Sublist.refl (p :: W)).cons q)), hm, hb⟩
  · exact ⟨S, h.trans ((List.Sublist.refl U).append (((List.Sublist.refl W).cons p).cons_cons q)), hm, hb⟩
  · refine ⟨A ++ q :: p :: B, hA.append ((hB.cons_cons p).cons_cons q), by simpa using hm, ?_⟩
    intro C hC cC
    rcases gr_two hC with h | h | ⟨A', B', rfl, hA', hB'⟩
    · exact hb C (h.trans ((List.Sublist.refl A).append ((List.Sublist.refl (q :: B)).cons p))) cC
    · exact hb C (h.trans ((List.Sublist.refl A).append (((List.Sublist.refl B).cons q).cons_cons p))) cC
    · have h2 := (List.pairwise_append.mp cC).2.1
      have h3 := (List.pairwise_cons.mp h2).1 p (by simp)
      exact absurd h3 (ay _ _ pq)
theorem gr_hard {R : Nat → Nat → Prop} (tr : ∀ a b c, R a b → R b c → R a c) (ay : ∀ a b, R a b → ¬ R b a) {k m : Nat} {U V : List Nat} {p q y : Nat} (py : R p y) (yq : R y q) (h : gr_G R k (U ++ q :: p :: y :: V) m) : gr_G R k (U ++ p :: q :: y :: V) m := by
  obtain ⟨S, hS, hm, hb⟩ := h
  rcases gr_two hS with h | h | ⟨S1, S4, rfl, hS1, hS4⟩
  · exact ⟨S, h.trans ((List.Sublist.refl U).append ((List.Sublist.refl (q :: y :: V)).cons p)), hm, hb⟩
  · exact ⟨S, h.trans ((List.Sublist.refl U).append (((List.Sublist.refl (y :: V)).cons q).cons_cons p)), hm, hb⟩
  · rcases List.sublist_cons_iff.mp hS4 with h5 | ⟨S5, rfl, h5⟩
    · apply Classical.byContradiction
      intro hn
      have n1 : ¬ gr_NB R k (S1 ++ p :: q :: S4) := fun hb' => hn ⟨_, hS1.append ((hS4.cons_cons q).cons_cons p), by simpa using hm, hb'⟩
      have n2 : ¬ gr_NB R k (S1 ++ q :: y :: S4) := fun hb' => hn ⟨_, hS1.append (((h5.cons_cons y).cons_cons q).cons p), by simpa using hm, hb'⟩
      obtain ⟨C, hC, cC, lC⟩ := gr_bad n1
      obtain ⟨D, hD, cD, lD⟩ := gr_bad n2
      rcases gr_two hC with h | h | ⟨A, B, rfl, hA, hB⟩
      · exact absurd (hb C (h.trans ((List.Sublist.refl S1).append ((List.Sublist.refl (p :: S4)).cons q))) cC) (by omega)
      · exact absurd (hb C (h.trans ((List.Sublist.refl S1).append (((List.Sublist.refl S4).cons p).cons_cons q))) cC) (by omega)
      · rcases gr_two hD with h | h | ⟨A', B', rfl, hA', hB'⟩
        · exact absurd (hb D (h.trans ((List.Sublist.refl S1).append (((List.Sublist.refl S4).cons p).cons_cons q))) cD) (by omega)
        · obtain ⟨A', D', rfl, hA', hD'⟩ := List.sublist_append_iff.mp h
          rcases List.sublist_cons_iff.mp hD' with h6 | ⟨B', rfl, hB'⟩
          · exact absurd (hb (A' ++ D') (hA'.append ((h6.cons p).cons q)) cD) (by omega)
          · obtain ⟨cA, cpq, AB⟩ := List.pairwise_append.mp cC
            obtain ⟨cp, cq⟩ := List.pairwise_cons.mp cpq
            obtain ⟨cqB, cB⟩ := List.pairwise_cons.mp cq
            obtain ⟨cA', cyB, AB'⟩ := List.pairwise_append.mp cD
            obtain ⟨cy, cB'⟩ := List.pairwise_cons.mp cyB
            have e1 : (A ++ p :: B').Pairwise R := by
              refine List.pairwise_append.mpr ⟨cA, List.pairwise_cons.mpr ⟨fun b hb => tr _ _ _ py (cy b hb), cB'⟩, fun a ha b hb => ?_⟩
              rcases List.mem_cons.mp hb with e | hb
              · rw [e]; exact AB a ha p (by simp)
              · exact tr _ _ _ (AB a ha p (by simp)) (tr _ _ _ py (cy b hb))
            have e2 : (A' ++ q :: B).Pairwise R := by
              refine List.pairwise_append.mpr ⟨cA', List.pairwise_cons.mpr ⟨cqB, cB⟩, fun a ha b hb => ?_⟩
              rcases List.mem_cons.mp hb with e | hb
              · rw [e]; exact tr _ _ _ (AB' a ha y (by simp)) yq
              · exact tr _ _ _ (tr _ _ _ (AB' a ha y (by simp)) yq) (cqB b hb)
            have l1 := hb (A ++ p :: B') (hA.append ((hB'.cons_cons p).cons q)) e1
            have l2 := hb (A' ++ q :: B) (hA'.append ((hB.cons p).cons_cons q)) e2
            simp only [List.length_append, List.length_cons] at l1 l2 lC lD
            omega
        · exact absurd (((List.pairwise_cons.mp (List.pairwise_append.mp cD).2.1).1 y (by simp))) (ay _ _ yq)
    · refine ⟨S1 ++ p :: q :: y :: S5, hS1.append (((h5.cons_cons y).cons_cons q).cons_cons p), by simpa using hm, ?_⟩
      intro C hC cC
      rcases gr_two hC with h | h | ⟨A, B, rfl, hA, hB⟩
      · exact hb C (h.trans ((List.Sublist.refl S1).append ((List.Sublist.refl (p :: y :: S5)).cons q))) cC
      · exact hb C (h.trans ((List.Sublist.refl S1).append (((List.Sublist.refl (y :: S5)).cons p).cons_cons q))) cC
      · obtain ⟨cA, cpq, AB⟩ := List.pairwise_append.mp cC
        obtain ⟨cp, cq⟩ := List.pairwise_cons.mp cpq
        obtain ⟨cqB, cB⟩ := List.pairwise_cons.mp cq
        rcases List.sublist_cons_iff.mp hB with h6 | ⟨B2, rfl, h6⟩
        · have e1 : (A ++ p :: y :: B).Pairwise R := by
            refine List.pairwise_append.mpr ⟨cA, List.pairwise_cons.mpr ⟨?_, List.pairwise_cons.mpr ⟨fun b hb => tr _ _ _ yq (cqB b hb), cB⟩⟩, ?_⟩
            · intro b hb
              rcases List.mem_cons.mp hb with e | hb
              · rw [e]; exact py
              · exact cp b (by simp [hb])
            · intro a ha b hb
              rcases List.mem_cons.mp hb with e | hb
              · rw [e]; exact AB a ha p (by simp)
              · rcases List.mem_cons.mp hb with e | hb
                · rw [e]; exact tr _ _ _ (AB a ha p (by simp)) py
                · exact AB a ha b (by simp [hb])
          have l1 := hb (A ++ p :: y :: B) (hA.append (((h6.cons_cons y).cons_cons p).cons q)) e1
          simp only [List.length_append, List.length_cons] at l1 ⊢
          omega
        · exact absurd (cqB y (by simp)) (ay _ _ yq)
theorem gr_rev {R : Nat → Nat → Prop} {k m : Nat} {w : List Nat} (h : gr_G R k w m) : gr_G (fun a b => R b a) k w.reverse m := by
  obtain ⟨S, hS, hm, hb⟩ := h
  refine ⟨S.reverse, hS.reverse, by simpa using hm, fun C hC cC => ?_⟩
  have h1 : List.Sublist C.reverse S := by simpa using hC.reverse
  have h2 : C.reverse.Pairwise R := List.pairwise_reverse.mpr cC
  have := hb _ h1 h2
  simpa using this
theorem gr_hard2 {R : Nat → Nat → Prop} (tr : ∀ a b c, R a b → R b c → R a c) (ay : ∀ a b, R a b → ¬ R b a) {k m : Nat} {U V : List Nat} {p q y : Nat} (py : R p y) (yq : R y q) (h : gr_G R k (U ++ y :: q :: p :: V) m) : gr_G R k (U ++ y :: p :: q :: V) m := by
  have h1 := gr_rev h
  have h2 : gr_G (fun a b => R b a) k (V.reverse ++ p :: q :: y :: U.reverse) m := by simpa using h1
  have h3 := gr_hard (R := fun a b => R b a) (fun a b c x y => tr c b a y x) (fun a b x => ay b a x) (p := q) (q := p) (y := y) yq py h2
  have h4 := gr_rev h3
  simpa using h4
theorem gr_iff1 {R : Nat → Nat → Prop} (tr : ∀ a b c, R a b → R b c → R a c) (ay : ∀ a b, R a b → ¬ R b a) {k m : Nat} {U V : List Nat} {p q y : Nat} (py : R p y) (yq : R y q) : gr_G R k (U ++ q :: p :: y :: V) m ↔ gr_G R k (U ++ p :: q :: y :: V) m :=
  ⟨gr_hard tr ay py yq, gr_triv ay (tr _ _ _ py yq)⟩
theorem gr_iff2 {R : Nat → Nat → Prop} (tr : ∀ a b c, R a b → R b c → R a c) (ay : ∀ a b, R a b → ¬ R b a) {k m : Nat} {U V : List Nat} {p q y : Nat} (py : R p y) (yq : R y q) : gr_G R k (U ++ y :: q :: p :: V) m ↔ gr_G R k (U ++ y :: p :: q :: V) m := by
  refine ⟨gr_hard2 tr ay py yq, fun h => ?_⟩
  have h2 : gr_G R k ((U ++ [y]) ++ p :: q :: V) m := by simpa using h
  have h3 := gr_triv ay (tr _ _ _ py yq) h2
  simpa using h3
theorem gr_ltT : ∀ a b c : Nat, a < b → b < c → a < c := fun _ _ _ h1 h2 => Nat.lt_trans h1 h2
theorem gr_gtT : ∀ a b c : Nat, b < a → c < b → c < a := fun _ _ _ h1 h2 => Nat.lt_trans h2 h1
theorem gr_ltA : ∀ a b : Nat, a < b → ¬ b < a := fun _ _ h => Nat.lt_asymm h
theorem gr_gtA : ∀ a b : Nat, b < a → ¬ a < b := fun _ _ h => Nat.lt_asymm h
/-- the two words have the same numbers, and whatever follows them, the same greatest sizes -/
def kn_E (w w' : List Nat) : Prop := (∀ V k m, gr_G (fun a b => a < b) k (w ++ V) m ↔ gr_G (fun a b => a < b) k (w' ++ V) m) ∧ (∀ V k m, gr_G (fun a b => b < a) k (w ++ V) m ↔ gr_G (fun a b => b < a) k (w' ++ V) m) ∧ List.Perm w w'
theorem kn_refl (w : List Nat) : kn_E w w := ⟨fun _ _ _ => Iff.rfl, fun _ _ _ => Iff.rfl, List.Perm.refl w⟩
theorem kn_eq {w w' : List Nat} (h : w = w') : kn_E w w' := by rw [h]; exact kn_refl _
theorem kn_trans {a b c : List Nat} (h : kn_E a b) (g : kn_E b c) : kn_E a c :=
  ⟨fun V k m => (h.1 V k m).trans (g.1 V k m), fun V k m => (h.2.1 V k m).trans (g.2.1 V k m), h.2.2.trans g.2.2⟩
theorem kn_app {a b : List Nat} (X : List Nat) (h : kn_E a b) : kn_E (a ++ X) (b ++ X) :=
  ⟨fun V k m => by rw [List.append_assoc, List.append_assoc]; exact h.1 (X ++ V) k m, fun V k m => by rw [List.append_assoc, List.append_assoc]; exact h.2.1 (X ++ V) k m, h.2.2.append_right X⟩
theorem kn_1 {U V : List Nat} {x y z : Nat} (xy : x < y) (yz : y < z) : kn_E (U ++ y :: z :: x :: V) (U ++ y :: x :: z :: V) := by
  refine ⟨fun V' k m => ?_, fun V' k m => ?_, List.Perm.append_left U ((List.Perm.swap x z V).cons y)⟩
  · have h := gr_iff2 (R := fun a b => a < b) gr_ltT gr_ltA (k := k) (m := m) (U := U) (V := V ++ V') (p := x) (q := z) (y := y) xy yz
    simpa using h
  · have h := gr_iff2 (R := fun a b => b < a) gr_gtT gr_gtA (k := k) (m := m) (U := U) (V := V ++ V') (p := z) (q := x) (y := y) yz xy
    simpa using h.symm
theorem kn_2 {U V : List Nat} {a b x : Nat} (ax : a < x) (xb : x < b) : kn_E (U ++ a :: b :: x :: V) (U ++ b :: a :: x :: V) := by
  refine ⟨fun V' k m => ?_, fun V' k m => ?_, List.Perm.append_left U (List.Perm.swap b a (x :: V))⟩
  · have h := gr_iff1 (R := fun a b => a < b) gr_ltT gr_ltA (k := k) (m := m) (U := U) (V := V ++ V') (p := a) (q := b) (y := x) ax xb
    simpa using h.symm
  · have h := gr_iff1 (R := fun a b => b < a) gr_gtT gr_gtA (k := k) (m := m) (U := U) (V := V ++ V') (p := b) (q := a) (y := x) xb ax
    simpa using h
theorem kn_C {x : Nat} {V : List Nat} : ∀ (C U : List Nat) (b : Nat), (b :: C).Pairwise (fun a b => a < b) → x < b → kn_E (U ++ b :: (C ++ x :: V)) (U ++ b :: x :: (C ++ V)) := by
  intro C
  induction C with
  | nil => intro U b _ _; exact kn_refl _
  | cons c C ih =>
    intro U b h hx
    obtain ⟨hb, hC⟩ := List.pairwise_cons.mp h
    have bc : b < c := hb c (by simp)
    have h1 := ih (U ++ [b]) c hC (Nat.lt_trans hx bc)
    have h2 := kn_1 (U := U) (V := C ++ V) hx bc
    rw [List.append_assoc, List.append_assoc] at h1
    exact kn_trans h1 h2
theorem kn_A {x b : Nat} {V : List Nat} (xb : x < b) : ∀ (A U : List Nat), (A ++ [x]).Pairwise (fun a b => a < b) → kn_E (U ++ (A ++ b :: x :: V)) (U ++ b :: (A ++ x :: V)) := by
  intro A
  induction A with
  | nil => intro U _; exact kn_refl _
  | cons a A ih =>
    intro U h
    obtain ⟨ha, hA⟩ := List.pairwise_cons.mp (show (a :: (A ++ [x])).Pairwise (fun a b => a < b) from h)
    have h1 := ih (U ++ [a]) hA
    rw [List.append_assoc, List.append_assoc] at h1
    refine kn_trans h1 ?_
    cases A with
    | nil => exact kn_2 (ha x (by simp)) xb
    | cons c A =>
      have hc : c < x := (List.pairwise_cons.mp (show (c :: (A ++ [x])).Pairwise (fun a b => a < b) from hA)).1 x (by simp)
      exact kn_2 (ha c (by simp)) (Nat.lt_trans hc xb)
theorem kn_row {A C U V : List Nat} {x b : Nat} (hs : (A ++ b :: C).Pairwise (fun a b => a < b)) (hA : ∀ a, a ∈ A → a < x) (xb : x < b) : kn_E (U ++ ((A ++ b :: C) ++ x :: V)) (U ++ b :: ((A ++ x :: C) ++ V)) := by
  obtain ⟨pA, pC, _⟩ := List.pairwise_append.mp hs
  have h1 := kn_C (x := x) (V := V) C (U ++ A) b pC xb
  have h2 := kn_A (x := x) (b := b) (V := C ++ V) xb A U (List.pairwise_append.mpr ⟨pA, by simp, fun a ha c hc => by rw [List.mem_singleton.mp hc]; exact hA a ha⟩)
  have e1 : U ++ ((A ++ b :: C) ++ x :: V) = (U ++ A) ++ b :: (C ++ x :: V) := by simp
  have e2 : (U ++ A) ++ b :: x :: (C ++ V) = U ++ (A ++ b :: x :: (C ++ V)) := by simp
  have e3 : U ++ b :: (A ++ x :: (C ++ V)) = U ++ b :: ((A ++ x :: C) ++ V) := by simp
  rw [e1, ← e3]
  rw [e2] at h1
  exact kn_trans h1 h2
end
