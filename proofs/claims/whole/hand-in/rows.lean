section
section
theorem pk_us {f : Nat → Int32} {k : Nat} {x : Int32} : upd f k x k = x := if_pos rfl
theorem pk_un {f : Nat → Int32} {k j : Nat} {x : Int32} (h : j ≠ k) : upd f k x j = f j := if_neg h
theorem pk_sub {a b : Nat} (h : b ≤ a) : nI a - nI b = nI (a - b) := by
  obtain ⟨c, rfl⟩ : ∃ c, a = c + b := ⟨a - b, by omega⟩
  rw [← nI_add, Int32.add_sub_cancel, Nat.add_sub_cancel]
theorem pk_m1 (n : Nat) : nI (n + 1) + (-1) = nI n := by
  rw [← nI_1, Int32.add_assoc, show (1 : Int32) + (-1) = 0 from rfl, Int32.add_zero]
theorem pk_mul (a b : Nat) : nI a * nI b = nI (a * b) := (Int32.ofNat_mul a b).symm
theorem pk_div {a d : Nat} (ha : a < 2 ^ 31) (h0 : 0 < d) (hd : d < 2 ^ 31) : nI a / nI d = nI (a / d) := by
  apply Int32.toInt_inj.mp
  rw [lg_idiv_nonneg (by rw [nI_toInt ha]; omega) (by rw [nI_toInt hd]; omega), nI_toInt ha, nI_toInt hd, nI_toInt (Nat.lt_of_le_of_lt (Nat.div_le_self a d) ha)]
  first | rfl | exact (Int.natCast_ediv _ _).symm
theorem pk_rem {a d : Nat} (ha : a < 2 ^ 31) (h0 : 0 < d) (hd : d < 2 ^ 31) : nI a - nI a / nI d * nI d = nI (a % d) := by
  rw [pk_div ha h0 hd, pk_mul, pk_sub (Nat.div_mul_le_self a d)]
  exact congrArg nI (by have := Nat.div_add_mod' a d; omega)
theorem pk_ix (x : Int32) {n : Nat} (hn : n < 2 ^ 31) : x < 0 ∨ nI n ≤ x ∨ ∃ j : Nat, j < n ∧ x = nI j := by
  by_cases h : x < 0
  · exact Or.inl h
  · obtain ⟨j, hj, rfl⟩ := nI_of h
    by_cases h2 : j < n
    · exact Or.inr (Or.inr ⟨j, h2, rfl⟩)
    · exact Or.inr (Or.inl (nI_le (by omega) hj))
theorem pk_le {x y : Int32} {A B : Prop} (a b : Nat) (f : a ≤ b → A) (g : b < a → B) (hx : x = nI a := by rfl) (hy : y = nI b := by rfl) (ha : a < 2 ^ 31 := by omega) (hb : b < 2 ^ 31 := by omega) : (x ≤ y → A) ∧ (¬ x ≤ y → B) := by
  subst hx hy
  rw [nI_leI ha hb]
  exact ⟨f, fun z => g (by omega)⟩
theorem pk_lt {x y : Int32} {A B : Prop} (a b : Nat) (f : a < b → A) (g : b ≤ a → B) (hx : x = nI a := by rfl) (hy : y = nI b := by rfl) (ha : a < 2 ^ 31 := by omega) (hb : b < 2 ^ 31 := by omega) : (x < y → A) ∧ (¬ x < y → B) := by
  subst hx hy
  rw [nI_ltI ha hb]
  exact ⟨f, fun z => g (by omega)⟩
theorem pk_eq {x y : Int32} {A B : Prop} (a b : Nat) (f : a = b → A) (g : a ≠ b → B) (hx : x = nI a := by rfl) (hy : y = nI b := by rfl) (ha : a < 2 ^ 31 := by omega) (hb : b < 2 ^ 31 := by omega) : (x = y → A) ∧ (¬ x = y → B) := by
  subst hx hy
  rw [nI_eq ha hb]
  exact ⟨f, g⟩
theorem pk_in {x : Int32} (n N : Nat) (h : n < N) (hx : x = nI n := by rfl) (hN : N < 2 ^ 31 := by omega) : vp_in x N := by
  subst hx
  exact vp_in_nI h hN
theorem pk_cl {x : Int32} (n : Nat) (hx : x = nI n := by rfl) (h : n < 2 ^ 31 := by omega) : x.toNatClampNeg = n := by
  subst hx
  exact nI_clamp h
theorem pk_tn {n : Nat} (h : n < 2 ^ 32) : (nI n).toBitVec.toNat = n := Nat.mod_eq_of_lt h
theorem pk_shl (a s : Int32) (k : Nat) (hs : (s.toBitVec.smod 32).toNat = k) : (a <<< s).toBitVec.toNat = a.toBitVec.toNat * 2 ^ k % 2 ^ 32 := by
  show (a.toBitVec <<< (s.toBitVec.smod 32).toNat).toNat = _
  rw [hs, BitVec.toNat_shiftLeft, Nat.shiftLeft_eq]
theorem pk_shlN {n : Nat} (s : Int32) (k : Nat) (hs : (s.toBitVec.smod 32).toNat = k) (h : n * 2 ^ k < 2 ^ 32) : nI n <<< s = nI (n * 2 ^ k) := by
  apply Int32.toBitVec_inj.mp
  apply BitVec.eq_of_toNat_eq
  have hn : n < 2 ^ 32 := Nat.lt_of_le_of_lt (Nat.le_mul_of_pos_right n (Nat.two_pow_pos k)) h
  rw [pk_shl _ _ k hs, pk_tn hn, pk_tn h, Nat.mod_eq_of_lt h]
theorem pk_shr (a s : Int32) (k : Nat) (hs : (s.toBitVec.smod 32).toNat = k) : (a >>> s).toInt = a.toInt >>> k := by
  show (a.toBitVec.sshiftRight (s.toBitVec.smod 32).toNat).toInt = _
  rw [hs, BitVec.toInt_sshiftRight]
  rfl
theorem pk_shrN {n : Nat} (h : n < 2 ^ 31) (s : Int32) (k : Nat) (hs : (s.toBitVec.smod 32).toNat = k) : nI n >>> s = nI (n / 2 ^ k) := by
  apply Int32.toInt_inj.mp
  have h2 : n / 2 ^ k ≤ n := Nat.div_le_self _ _
  rw [pk_shr _ _ k hs, nI_toInt h, nI_toInt (by omega), Int.shiftRight_eq_div_pow]
  rfl
theorem pk_loop {σ : Type} (W : Nat → Nat → σ → Prop) (I : Nat → σ → Prop) (e i0 : Nat) (s : σ) (hi : i0 ≤ e) (h0 : I i0 s) (hx : ∀ n s, I e s → W (n + 1) e s)
    (hs : ∀ n i s, i < e → I i s → (∀ s', I (i + 1) s' → W n (i + 1) s') → W (n + 1) i s) : ∃ n, W n i0 s :=
  ⟨e + 1, loop_i W I e hx hs (e + 1) i0 s hi (by omega) h0⟩
theorem pk_loopD {σ : Type} (W : Nat → Nat → σ → Prop) (I : Nat → σ → Prop) (hx : ∀ n s, I 0 s → W (n + 1) 0 s)
    (hs : ∀ n i s, I (i + 1) s → (∀ s', I i s' → W n i s') → W (n + 1) (i + 1) s) : ∀ (e : Nat) (s : σ), I e s → W (e + 1) e s := by
  intro e
  induction e with
  | zero => exact fun s h => hx 0 s h
  | succ e ih => exact fun s h => hs (e + 1) e s h (fun s' h' => ih s' h')
theorem s_l : ∀ n, n < 32 → ((nI n &&& 31).toBitVec.smod 32).toNat = n := by decide +kernel
theorem nx_and (a b : Nat) : nI a &&& nI b = nI (a &&& b) := by
  apply Int32.toBitVec_inj.1
  show BitVec.ofNat 32 a &&& BitVec.ofNat 32 b = BitVec.ofNat 32 (a &&& b)
  apply BitVec.eq_of_getLsbD_eq
  intro i hi
  simp [hi]
end
end
section
section
/-- no R-chain of S is longer than k -/
def gr_NB (R : Nat → Nat → Prop) (k : Nat) (S : List Nat) : Prop := ∀ C : List Nat, List.Sublist C S → C.Pairwise R → C.length ≤ k
/-- some sublist of w of length m has no R-chain longer than k -/
def gr_G (R : Nat → Nat → Prop) (k : Nat) (w : List Nat) (m : Nat) : Prop := ∃ S : List Nat, List.Sublist S w ∧ S.length = m ∧ gr_NB R k S
theorem gr_bad {R : Nat → Nat → Prop} {k : Nat} {S : List Nat} (h : ¬ gr_NB R k S) : ∃ C : List Nat, List.Sublist C S ∧ C.Pairwise R ∧ k < C.length := by
  apply Classical.byContradiction
  intro hn
  apply h
  intro C hC cC
  apply Classical.byContradiction
  intro hl
  exact hn ⟨C, hC, cC, by omega⟩
theorem gr_two {S1 S4 C : List Nat} {p q : Nat} (h : List.Sublist C (S1 ++ p :: q :: S4)) : List.Sublist C (S1 ++ p :: S4) ∨ List.Sublist C (S1 ++ q :: S4) ∨ ∃ A B : List Nat, C = A ++ p :: q :: B ∧ List.Sublist A S1 ∧ List.Sublist B S4 := by
  obtain ⟨A, D, rfl, hA, hD⟩ := List.sublist_append_iff.mp h
  rcases List.sublist_cons_iff.mp hD with hD | ⟨E, rfl, hE⟩
  · exact Or.inr (Or.inl (hA.append hD))
  · rcases List.sublist_cons_iff.mp hE with hE | ⟨B, rfl, hB⟩
    · exact Or.inl (hA.append (hE.cons_cons p))
    · exact Or.inr (Or.inr ⟨A, B, rfl, hA, hB⟩)
theorem gr_triv {R : Nat → Nat → Prop} (ay : ∀ a b, R a b → ¬ R b a) {k m : Nat} {U W : List Nat} {p q : Nat} (pq : R p q) (h : gr_G R k (U ++ p :: q :: W) m) : gr_G R k (U ++ q :: p :: W) m := by
  obtain ⟨S, hS, hm, hb⟩ := h
  rcases gr_two hS with h | h | ⟨A, B, rfl, hA, hB⟩
  · exact ⟨S, h.trans ((List.Sublist.refl U).append ((List.Sublist.refl (p :: W)).cons q)), hm, hb⟩
  · exact ⟨S, h.trans ((List.Sublist.refl U).append (((List.Sublist.refl W).cons p).cons_cons q)), hm, hb⟩
  · refine ⟨A ++ q :: p :: B, hA.append ((hB.cons_cons p).cons_cons q), by simpa using hm, ?_⟩
    intro C hC cC
    rcases gr_two hC with h | h | ⟨A', B', rfl, hA', hB'⟩
    · exact hb C (h.trans ((List.Sublist.refl A).append ((List.Sublist.refl (q :: B)).cons p))) cC
    · exact hb C (h.trans ((List.Sublist.refl A).append (((List.Sublist.refl B).cons q).cons_cons p))) cC
    · have h2 := (List.pairwise_append.mp cC).2.1
      have h3 := (List.pairwise_cons.mp h2).1 p (by simp)
      exact absurd h3 (ay _ _ pq)
theorem gr_hard {R : Nat → Nat → Prop} (tr : ∀ a b c, R a b → R b c → R a c) (ay : ∀ a b, R a b → ¬ R b a) {k m : Nat} {U V : List Nat} {p q y : Nat} (py : R p y) (yq : R y q) (h : gr_G R k (U ++ q :: p :: y :: V) m) : gr_G R k (U ++ p :: q :: y :: V) m := by
  obtain ⟨S, hS, hm, hb⟩ := h
  rcases gr_two hS with h | h | ⟨S1, S4, rfl, hS1, hS4⟩
  · exact ⟨S, h.trans ((List.Sublist.refl U).append ((List.Sublist.refl (q :: y :: V)).cons p)), hm, hb⟩
  · exact ⟨S, h.trans ((List.Sublist.refl U).append (((List.Sublist.refl (y :: V)).cons q).cons_cons p)), hm, hb⟩
  · rcases List.sublist_cons_iff.mp hS4 with h5 | ⟨S5, rfl, h5⟩
    · apply Classical.byContradiction
      intro hn
      have n1 : ¬ gr_NB R k (S1 ++ p :: q :: S4) := fun hb' => hn ⟨_, hS1.append ((hS4.cons_cons q).cons_cons p), by simpa using hm, hb'⟩
      have n2 : ¬ gr_NB R k (S1 ++ q :: y :: S4) := fun hb' => hn ⟨_, hS1.append (((h5.cons_cons y).cons_cons q).cons p), by simpa using hm, hb'⟩
      obtain ⟨C, hC, cC, lC⟩ := gr_bad n1
      obtain ⟨D, hD, cD, lD⟩ := gr_bad n2
      rcases gr_two hC with h | h | ⟨A, B, rfl, hA, hB⟩
      · exact absurd (hb C (h.trans ((List.Sublist.refl S1).append ((List.Sublist.refl (p :: S4)).cons q))) cC) (by omega)
      · exact absurd (hb C (h.trans ((List.Sublist.refl S1).append (((List.Sublist.refl S4).cons p).cons_cons q))) cC) (by omega)
      · rcases gr_two hD with h | h | ⟨A', B', rfl, hA', hB'⟩
        · exact absurd (hb D (h.trans ((List.Sublist.refl S1).append (((List.Sublist.refl S4).cons p).cons_cons q))) cD) (by omega)
        · obtain ⟨A', D', rfl, hA', hD'⟩ := List.sublist_append_iff.mp h
          rcases List.sublist_cons_iff.mp hD' with h6 | ⟨B', rfl, hB'⟩
          · exact absurd (hb (A' ++ D') (hA'.append ((h6.cons p).cons q)) cD) (by omega)
          · obtain ⟨cA, cpq, AB⟩ := List.pairwise_append.mp cC
            obtain ⟨cp, cq⟩ := List.pairwise_cons.mp cpq
            obtain ⟨cqB, cB⟩ := List.pairwise_cons.mp cq
            obtain ⟨cA', cyB, AB'⟩ := List.pairwise_append.mp cD
            obtain ⟨cy, cB'⟩ := List.pairwise_cons.mp cyB
            have e1 : (A ++ p :: B').Pairwise R := by
              refine List.pairwise_append.mpr ⟨cA, List.pairwise_cons.mpr ⟨fun b hb => tr _ _ _ py (cy b hb), cB'⟩, fun a ha b hb => ?_⟩
              rcases List.mem_cons.mp hb with e | hb
              · rw [e]; exact AB a ha p (by simp)
              · exact tr _ _ _ (AB a ha p (by simp)) (tr _ _ _ py (cy b hb))
            have e2 : (A' ++ q :: B).Pairwise R := by
              refine List.pairwise_append.mpr ⟨cA', List.pairwise_cons.mpr ⟨cqB, cB⟩, fun a ha b hb => ?_⟩
              rcases List.mem_cons.mp hb with e | hb
              · rw [e]; exact tr _ _ _ (AB' a ha y (by simp)) yq
              · exact tr _ _ _ (tr _ _ _ (AB' a ha y (by simp)) yq) (cqB b hb)
            have l1 := hb (A ++ p :: B') (hA.append ((hB'.cons_cons p).cons q)) e1
            have l2 := hb (A' ++ q :: B) (hA'.append ((hB.cons p).cons_cons q)) e2
            simp only [List.length_append, List.length_cons] at l1 l2 lC lD
            omega
        · exact absurd (((List.pairwise_cons.mp (List.pairwise_append.mp cD).2.1).1 y (by simp))) (ay _ _ yq)
    · refine ⟨S1 ++ p :: q :: y :: S5, hS1.append (((h5.cons_cons y).cons_cons q).cons_cons p), by simpa using hm, ?_⟩
      intro C hC cC
      rcases gr_two hC with h | h | ⟨A, B, rfl, hA, hB⟩
      · exact hb C (h.trans ((List.Sublist.refl S1).append ((List.Sublist.refl (p :: y :: S5)).cons q))) cC
      · exact hb C (h.trans ((List.Sublist.refl S1).append (((List.Sublist.refl (y :: S5)).cons p).cons_cons q))) cC
      · obtain ⟨cA, cpq, AB⟩ := List.pairwise_append.mp cC
        obtain ⟨cp, cq⟩ := List.pairwise_cons.mp cpq
        obtain ⟨cqB, cB⟩ := List.pairwise_cons.mp cq
        rcases List.sublist_cons_iff.mp hB with h6 | ⟨B2, rfl, h6⟩
        · have e1 : (A ++ p :: y :: B).Pairwise R := by
            refine List.pairwise_append.mpr ⟨cA, List.pairwise_cons.mpr ⟨?_, List.pairwise_cons.mpr ⟨fun b hb => tr _ _ _ yq (cqB b hb), cB⟩⟩, ?_⟩
            · intro b hb
              rcases List.mem_cons.mp hb with e | hb
              · rw [e]; exact py
              · exact cp b (by simp [hb])
            · intro a ha b hb
              rcases List.mem_cons.mp hb with e | hb
              · rw [e]; exact AB a ha p (by simp)
              · rcases List.mem_cons.mp hb with e | hb
                · rw [e]; exact tr _ _ _ (AB a ha p (by simp)) py
                · exact AB a ha b (by simp [hb])
          have l1 := hb (A ++ p :: y :: B) (hA.append (((h6.cons_cons y).cons_cons p).cons q)) e1
          simp only [List.length_append, List.length_cons] at l1 ⊢
          omega
        · exact absurd (cqB y (by simp)) (ay _ _ yq)
theorem gr_rev {R : Nat → Nat → Prop} {k m : Nat} {w : List Nat} (h : gr_G R k w m) : gr_G (fun a b => R b a) k w.reverse m := by
  obtain ⟨S, hS, hm, hb⟩ := h
  refine ⟨S.reverse, hS.reverse, by simpa using hm, fun C hC cC => ?_⟩
  have h1 : List.Sublist C.reverse S := by simpa using hC.reverse
  have h2 : C.reverse.Pairwise R := List.pairwise_reverse.mpr cC
  have := hb _ h1 h2
  simpa using this
theorem gr_hard2 {R : Nat → Nat → Prop} (tr : ∀ a b c, R a b → R b c → R a c) (ay : ∀ a b, R a b → ¬ R b a) {k m : Nat} {U V : List Nat} {p q y : Nat} (py : R p y) (yq : R y q) (h : gr_G R k (U ++ y :: q :: p :: V) m) : gr_G R k (U ++ y :: p :: q :: V) m := by
  have h1 := gr_rev h
  have h2 : gr_G (fun a b => R b a) k (V.reverse ++ p :: q :: y :: U.reverse) m := by simpa using h1
  have h3 := gr_hard (R := fun a b => R b a) (fun a b c x y => tr c b a y x) (fun a b x => ay b a x) (p := q) (q := p) (y := y) yq py h2
  have h4 := gr_rev h3
  simpa using h4
theorem gr_iff1 {R : Nat → Nat → Prop} (tr : ∀ a b c, R a b → R b c → R a c) (ay : ∀ a b, R a b → ¬ R b a) {k m : Nat} {U V : List Nat} {p q y : Nat} (py : R p y) (yq : R y q) : gr_G R k (U ++ q :: p :: y :: V) m ↔ gr_G R k (U ++ p :: q :: y :: V) m :=
  ⟨gr_hard tr ay py yq, gr_triv ay (tr _ _ _ py yq)⟩
theorem gr_iff2 {R : Nat → Nat → Prop} (tr : ∀ a b c, R a b → R b c → R a c) (ay : ∀ a b, R a b → ¬ R b a) {k m : Nat} {U V : List Nat} {p q y : Nat} (py : R p y) (yq : R y q) : gr_G R k (U ++ y :: q :: p :: V) m ↔ gr_G R k (U ++ y :: p :: q :: V) m := by
  refine ⟨gr_hard2 tr ay py yq, fun h => ?_⟩
  have h2 : gr_G R k ((U ++ [y]) ++ p :: q :: V) m := by simpa using h
  have h3 := gr_triv ay (tr _ _ _ py yq) h2
  simpa using h3
theorem gr_ltT : ∀ a b c : Nat, a < b → b < c → a < c := fun _ _ _ h1 h2 => Nat.lt_trans h1 h2
theorem gr_gtT : ∀ a b c : Nat, b < a → c < b → c < a := fun _ _ _ h1 h2 => Nat.lt_trans h2 h1
theorem gr_ltA : ∀ a b : Nat, a < b → ¬ b < a := fun _ _ h => Nat.lt_asymm h
theorem gr_gtA : ∀ a b : Nat, b < a → ¬ a < b := fun _ _ h => Nat.lt_asymm h
/-- the two words have the same numbers, and whatever follows them, the same greatest sizes -/
def kn_E (w w' : List Nat) : Prop := (∀ V k m, gr_G (fun a b => a < b) k (w ++ V) m ↔ gr_G (fun a b => a < b) k (w' ++ V) m) ∧ (∀ V k m, gr_G (fun a b => b < a) k (w ++ V) m ↔ gr_G (fun a b => b < a) k (w' ++ V) m) ∧ List.Perm w w'
theorem kn_refl (w : List Nat) : kn_E w w := ⟨fun _ _ _ => Iff.rfl, fun _ _ _ => Iff.rfl, List.Perm.refl w⟩
theorem kn_eq {w w' : List Nat} (h : w = w') : kn_E w w' := by rw [h]; exact kn_refl _
theorem kn_trans {a b c : List Nat} (h : kn_E a b) (g : kn_E b c) : kn_E a c :=
  ⟨fun V k m => (h.1 V k m).trans (g.1 V k m), fun V k m => (h.2.1 V k m).trans (g.2.1 V k m), h.2.2.trans g.2.2⟩
theorem kn_app {a b : List Nat} (X : List Nat) (h : kn_E a b) : kn_E (a ++ X) (b ++ X) :=
  ⟨fun V k m => by rw [List.append_assoc, List.append_assoc]; exact h.1 (X ++ V) k m, fun V k m => by rw [List.append_assoc, List.append_assoc]; exact h.2.1 (X ++ V) k m, h.2.2.append_right X⟩
theorem kn_1 {U V : List Nat} {x y z : Nat} (xy : x < y) (yz : y < z) : kn_E (U ++ y :: z :: x :: V) (U ++ y :: x :: z :: V) := by
  refine ⟨fun V' k m => ?_, fun V' k m => ?_, List.Perm.append_left U ((List.Perm.swap x z V).cons y)⟩
  · have h := gr_iff2 (R := fun a b => a < b) gr_ltT gr_ltA (k := k) (m := m) (U := U) (V := V ++ V') (p := x) (q := z) (y := y) xy yz
    simpa using h
  · have h := gr_iff2 (R := fun a b => b < a) gr_gtT gr_gtA (k := k) (m := m) (U := U) (V := V ++ V') (p := z) (q := x) (y := y) yz xy
    simpa using h.symm
theorem kn_2 {U V : List Nat} {a b x : Nat} (ax : a < x) (xb : x < b) : kn_E (U ++ a :: b :: x :: V) (U ++ b :: a :: x :: V) := by
  refine ⟨fun V' k m => ?_, fun V' k m => ?_, List.Perm.append_left U (List.Perm.swap b a (x :: V))⟩
  · have h := gr_iff1 (R := fun a b => a < b) gr_ltT gr_ltA (k := k) (m := m) (U := U) (V := V ++ V') (p := a) (q := b) (y := x) ax xb
    simpa using h.symm
  · have h := gr_iff1 (R := fun a b => b < a) gr_gtT gr_gtA (k := k) (m := m) (U := U) (V := V ++ V') (p := b) (q := a) (y := x) xb ax
    simpa using h
theorem kn_C {x : Nat} {V : List Nat} : ∀ (C U : List Nat) (b : Nat), (b :: C).Pairwise (fun a b => a < b) → x < b → kn_E (U ++ b :: (C ++ x :: V)) (U ++ b :: x :: (C ++ V)) := by
  intro C
  induction C with
  | nil => intro U b _ _; exact kn_refl _
  | cons c C ih =>
    intro U b h hx
    obtain ⟨hb, hC⟩ := List.pairwise_cons.mp h
    have bc : b < c := hb c (by simp)
    have h1 := ih (U ++ [b]) c hC (Nat.lt_trans hx bc)
    have h2 := kn_1 (U := U) (V := C ++ V) hx bc
    rw [List.append_assoc, List.append_assoc] at h1
    exact kn_trans h1 h2
theorem kn_A {x b : Nat} {V : List Nat} (xb : x < b) : ∀ (A U : List Nat), (A ++ [x]).Pairwise (fun a b => a < b) → kn_E (U ++ (A ++ b :: x :: V)) (U ++ b :: (A ++ x :: V)) := by
  intro A
  induction A with
  | nil => intro U _; exact kn_refl _
  | cons a A ih =>
    intro U h
    obtain ⟨ha, hA⟩ := List.pairwise_cons.mp (show (a :: (A ++ [x])).Pairwise (fun a b => a < b) from h)
    have h1 := ih (U ++ [a]) hA
    rw [List.append_assoc, List.append_assoc] at h1
    refine kn_trans h1 ?_
    cases A with
    | nil => exact kn_2 (ha x (by simp)) xb
    | cons c A =>
      have hc : c < x := (List.pairwise_cons.mp (show (c :: (A ++ [x])).Pairwise (fun a b => a < b) from hA)).1 x (by simp)
      exact kn_2 (ha c (by simp)) (Nat.lt_trans hc xb)
theorem kn_row {A C U V : List Nat} {x b : Nat} (hs : (A ++ b :: C).Pairwise (fun a b => a < b)) (hA : ∀ a, a ∈ A → a < x) (xb : x < b) : kn_E (U ++ ((A ++ b :: C) ++ x :: V)) (U ++ b :: ((A ++ x :: C) ++ V)) := by
  obtain ⟨pA, pC, _⟩ := List.pairwise_append.mp hs
  have h1 := kn_C (x := x) (V := V) C (U ++ A) b pC xb
  have h2 := kn_A (x := x) (b := b) (V := C ++ V) xb A U (List.pairwise_append.mpr ⟨pA, by simp, fun a ha c hc => by rw [List.mem_singleton.mp hc]; exact hA a ha⟩)
  have e1 : U ++ ((A ++ b :: C) ++ x :: V) = (U ++ A) ++ b :: (C ++ x :: V) := by simp
  have e2 : (U ++ A) ++ b :: x :: (C ++ V) = U ++ (A ++ b :: x :: (C ++ V)) := by simp
  have e3 : U ++ b :: (A ++ x :: (C ++ V)) = U ++ b :: ((A ++ x :: C) ++ V) := by simp
  rw [e1, ← e3]
  rw [e2] at h1
  exact kn_trans h1 h2
end
end
section
section
def sm_s (f : Nat → Nat) : Nat → Nat
  | 0 => 0
  | n + 1 => sm_s f n + f n
theorem sm_congr {f g : Nat → Nat} : ∀ n, (∀ i, i < n → f i = g i) → sm_s f n = sm_s g n := by
  intro n
  induction n with
  | zero => intro _; rfl
  | succ n ih => intro h; rw [sm_s, sm_s, ih (fun i hi => h i (by omega)), h n (by omega)]
theorem sm_le {f g : Nat → Nat} : ∀ n, (∀ i, i < n → f i ≤ g i) → sm_s f n ≤ sm_s g n := by
  intro n
  induction n with
  | zero => intro _; exact Nat.le_refl _
  | succ n ih =>
    intro h
    have h1 := ih (fun i hi => h i (by omega))
    have h2 := h n (by omega)
    simp only [sm_s]
    omega
theorem sm_add (f g : Nat → Nat) : ∀ n, sm_s (fun i => f i + g i) n = sm_s f n + sm_s g n := by
  intro n
  induction n with
  | zero => rfl
  | succ n ih => simp only [sm_s, ih]; omega
theorem sm_zero {f : Nat → Nat} : ∀ n, (∀ i, i < n → f i = 0) → sm_s f n = 0 := by
  intro n
  induction n with
  | zero => intro _; rfl
  | succ n ih => intro h; rw [sm_s, ih (fun i hi => h i (by omega)), h n (by omega)]
theorem sm_tail {f : Nat → Nat} {a : Nat} : ∀ d, (∀ i, a ≤ i → i < a + d → f i = 0) → sm_s f (a + d) = sm_s f a := by
  intro d
  induction d with
  | zero => intro _; rfl
  | succ d ih =>
    intro h
    show sm_s f (a + d) + f (a + d) = sm_s f a
    rw [ih (fun i h1 h2 => h i h1 (by omega)), h (a + d) (by omega) (by omega)]; rfl
theorem sm_one : ∀ n, sm_s (fun _ => 1) n = n := by
  intro n
  induction n with
  | zero => rfl
  | succ n ih => simp only [sm_s, ih]
theorem sm_swap (g : Nat → Nat → Nat) (b : Nat) : ∀ a, sm_s (fun i => sm_s (fun j => g i j) b) a = sm_s (fun j => sm_s (fun i => g i j) a) b := by
  intro a
  induction a with
  | zero => exact (sm_zero b (fun _ _ => rfl)).symm
  | succ a ih => simp only [sm_s, ih]; rw [sm_add]
theorem sm_delta (c : Nat) : ∀ n, sm_s (fun j => if c = j then 1 else 0) n = if c < n then 1 else 0 := by
  intro n
  induction n with
  | zero => rfl
  | succ n ih =>
    simp only [sm_s, ih]
    by_cases h : c < n
    · have h1 : ¬ c = n := by omega
      have h2 : c < n + 1 := by omega
      simp [h, h1, h2]
    · by_cases h1 : c = n
      · simp [h1]
      · have h2 : ¬ c < n + 1 := by omega
        simp [h, h1, h2]
theorem sm_cut (p : Nat → Nat) (k : Nat) : ∀ n, sm_s (fun j => if j < k then p j else 0) n = sm_s p (min k n) := by
  intro n
  induction n with
  | zero => rw [Nat.min_zero]; rfl
  | succ n ih =>
    simp only [sm_s, ih]
    by_cases h : n < k
    · rw [Nat.min_eq_right (by omega : n ≤ k), Nat.min_eq_right (by omega : n + 1 ≤ k)]
      simp [h, sm_s]
    · rw [Nat.min_eq_left (by omega : k ≤ n), Nat.min_eq_left (by omega : k ≤ n + 1)]
      simp [h]
/-- a falling list of places below n that all count has at most as many as the sum -/
theorem sm_len {f : Nat → Nat} : ∀ (n : Nat) (L : List Nat), L.Pairwise (fun a b => b < a) → (∀ x, x ∈ L → x < n ∧ f x = 1) → L.length ≤ sm_s f n := by
  intro n
  induction n with
  | zero =>
    intro L _ h
    cases L with
    | nil => exact Nat.le_refl _
    | cons a L => exact absurd (h a (by simp)).1 (by omega)
  | succ n ih =>
    intro L hp h
    cases L with
    | nil => exact Nat.zero_le _
    | cons a L =>
      obtain ⟨ha, hL⟩ := List.pairwise_cons.mp hp
      have h1 := h a (by simp)
      by_cases e : a = n
      · have h2 := ih L hL (fun x hx => ⟨by have := ha x hx; omega, (h x (by simp [hx])).2⟩)
        rw [e] at h1
        simp only [sm_s, List.length_cons, h1.2]
        omega
      · have h2 := ih (a :: L) hp (fun x hx => ⟨by
          rcases List.mem_cons.mp hx with e2 | hx
          · omega
          · have := ha x hx; omega, (h x hx).2⟩)
        simp only [sm_s]
        omega
theorem sm_lenK {n : Nat} {L : List Nat} (hp : L.Pairwise (fun a b => a < b)) (h : ∀ x, x ∈ L → x < n) : L.length ≤ n := by
  have h1 := sm_len (f := fun _ => 1) n L.reverse (List.pairwise_reverse.mpr hp) (fun x hx => ⟨h x (by simpa using hx), rfl⟩)
  rw [sm_one] at h1
  simpa using h1
/-- a closed row of at most ten: what is at most k and at most the whole is at most the first k -/
theorem sm_cl {f : Nat → Nat} (h01 : ∀ j, f j ≤ 1) (cl : ∀ j, j + 1 < 10 → f (j + 1) = 1 → f j = 1) {k s : Nat} (h1 : s ≤ k) (h2 : s ≤ sm_s f 10) : s ≤ sm_s f (min k 10) := by
  by_cases hk : 10 ≤ k
  · rw [Nat.min_eq_right hk]; exact h2
  · rw [Nat.min_eq_left (by omega)]
    have P : ∀ a, a ≤ 10 → sm_s f a = a ∨ ∀ j, a ≤ j → j < 10 → f j = 0 := by
      intro a
      induction a with
      | zero => intro _; exact Or.inl rfl
      | succ a ih =>
        intro ha
        rcases ih (by omega) with e | e
        · by_cases ea : f a = 1
          · exact Or.inl (by simp only [sm_s, e, ea])
          · right
            have z : f a = 0 := by have := h01 a; omega
            intro j hj
            have Q : ∀ d, a + d < 10 → f (a + d) = 0 := by
              intro d
              induction d with
              | zero => intro _; exact z
              | succ d ihd =>
                intro hd
                have hq := ihd (by omega)
                have hc := cl (a + d) (by omega)
                have hb := h01 (a + d + 1)
                have e3 : a + (d + 1) = a + d + 1 := rfl
                rw [e3]
                by_cases e4 : f (a + d + 1) = 1
                · have := hc e4; omega
                · omega
            intro hj2
            have := Q (j - a) (by omega)
            rwa [show a + (j - a) = j by omega] at this
        · exact Or.inr (fun j hj hj2 => e j (by omega) hj2)
    rcases P k (by omega) with e | e
    · omega
    · have e2 := sm_tail (f := f) (a := k) (10 - k) (fun i ha hb => e i ha (by omega))
      rw [show k + (10 - k) = 10 by omega] at e2
      omega
end
end
section
section
/-- the numbers of line i of a tableau, 100 for a free cell -/
def tb_rw (t : Nat → Nat → Nat) (i : Nat) : List Nat := ((List.range 10).map (t i)).filter (fun v => decide (v < 100))
/-- the reading word of the lines i .. i + d - 1: the last line first -/
def tb_w (t : Nat → Nat → Nat) : Nat → Nat → List Nat
  | _, 0 => []
  | i, d + 1 => tb_w t (i + 1) d ++ tb_rw t i
theorem tb_top (t : Nat → Nat → Nat) : ∀ d i, tb_w t i (d + 1) = tb_rw t (i + d) ++ tb_w t i d := by
  intro d
  induction d with
  | zero => intro i; simp [tb_w]
  | succ d ih =>
    intro i
    have e : i + 1 + d = i + (d + 1) := by omega
    rw [tb_w, ih (i + 1), e, tb_w, List.append_assoc]
theorem tb_rwC {t t' : Nat → Nat → Nat} {i : Nat} (h : ∀ j, j < 10 → t i j = t' i j) : tb_rw t i = tb_rw t' i := by
  unfold tb_rw
  rw [List.map_congr_left (fun j hj => h j (List.mem_range.mp hj))]
theorem tb_wC {t t' : Nat → Nat → Nat} : ∀ d i, (∀ r, i ≤ r → r < i + d → ∀ j, j < 10 → t r j = t' r j) → tb_w t i d = tb_w t' i d := by
  intro d
  induction d with
  | zero => intro i _; rfl
  | succ d ih =>
    intro i h
    rw [tb_w, tb_w, ih (i + 1) (fun r h1 h2 => h r (by omega) (by omega)), tb_rwC (h i (by omega) (by omega))]
theorem tb_wA (t : Nat → Nat → Nat) (i d : Nat) : ∀ e, tb_w t i (d + e) = tb_w t (i + d) e ++ tb_w t i d := by
  intro e
  induction e with
  | zero => rfl
  | succ e ih =>
    have h1 : tb_w t i (d + (e + 1)) = tb_rw t (i + (d + e)) ++ tb_w t i (d + e) := tb_top t (d + e) i
    rw [h1, ih, tb_top t e (i + d), List.append_assoc, Nat.add_assoc]
def tb_T (t : Nat → Nat → Nat) : Prop := (∀ i j, i < 10 → j < 10 → t i j ≤ 100) ∧ (∀ i j, i < 10 → j + 1 < 10 → t i (j + 1) < 100 → t i j < t i (j + 1)) ∧ (∀ i j, i + 1 < 10 → j < 10 → t (i + 1) j < 100 → t i j < t (i + 1) j)
theorem tb_rm {t : Nat → Nat → Nat} (T : tb_T t) {i j : Nat} (hi : i < 10) : ∀ d, j + d < 10 → t i (j + d) < 100 → t i j + d ≤ t i (j + d) := by
  intro d
  induction d with
  | zero => intro _ _; exact Nat.le_refl _
  | succ d ih =>
    intro hd hf
    have h1 := T.2.1 i (j + d) hi (by omega) hf
    have h2 := ih (by omega) (by have : j + (d + 1) = j + d + 1 := rfl; rw [this] at hf; omega)
    have : j + (d + 1) = j + d + 1 := rfl
    rw [this]
    omega
theorem tb_cm {t : Nat → Nat → Nat} (T : tb_T t) {i j : Nat} (hj : j < 10) : ∀ d, i + d < 10 → t (i + d) j < 100 → t i j + d ≤ t (i + d) j := by
  intro d
  induction d with
  | zero => intro _ _; exact Nat.le_refl _
  | succ d ih =>
    intro hd hf
    have h1 := T.2.2 (i + d) j (by omega) hj hf
    have h2 := ih (by omega) (by have : i + (d + 1) = i + d + 1 := rfl; rw [this] at hf; omega)
    have : i + (d + 1) = i + d + 1 := rfl
    rw [this]
    omega
theorem tb_rl {t : Nat → Nat → Nat} (T : tb_T t) {i a b : Nat} (hi : i < 10) (hb : b < 10) (ab : a < b) (f : t i b < 100) : t i a < t i b := by
  have h := tb_rm T (i := i) (j := a) hi (b - a) (by omega) (by rwa [show a + (b - a) = b by omega])
  rw [show a + (b - a) = b by omega] at h
  omega
theorem tb_cl {t : Nat → Nat → Nat} (T : tb_T t) {a b j : Nat} (hj : j < 10) (hb : b < 10) (ab : a < b) (f : t b j < 100) : t a j < t b j := by
  have h := tb_cm T (i := a) (j := j) hj (b - a) (by omega) (by rwa [show a + (b - a) = b by omega])
  rw [show a + (b - a) = b by omega] at h
  omega
theorem tb_pw {t : Nat → Nat → Nat} (T : tb_T t) {i : Nat} (hi : i < 10) : (tb_rw t i).Pairwise (fun a b => a < b) := by
  unfold tb_rw
  rw [List.pairwise_filter, List.pairwise_map]
  refine List.Pairwise.imp_of_mem ?_ (List.pairwise_lt_range (n := 10))
  intro a b _ hb ab _ hf
  exact tb_rl T hi (List.mem_range.mp hb) ab (by simpa using hf)
theorem tb_mem {t : Nat → Nat → Nat} {i j : Nat} (hj : j < 10) (hf : t i j < 100) : t i j ∈ tb_rw t i := by
  unfold tb_rw
  rw [List.mem_filter]
  exact ⟨List.mem_map.mpr ⟨j, List.mem_range.mpr hj, rfl⟩, by simpa using hf⟩
theorem tb_rngF : ∀ j : Fin 10, List.range 10 = List.range j.val ++ j.val :: (List.range 10).drop (j.val + 1) ∧ ∀ r, r ∈ (List.range 10).drop (j.val + 1) → j.val < r ∧ r < 10 := by decide
theorem tb_rng {j : Nat} (h : j < 10) : ∃ R, List.range 10 = List.range j ++ j :: R ∧ ∀ r, r ∈ R → j < r ∧ r < 10 := ⟨_, tb_rngF ⟨j, h⟩⟩
def tb_u (t : Nat → Nat → Nat) (i j x : Nat) : Nat → Nat → Nat := fun r c => if r = i ∧ c = j then x else t r c
theorem tb_us (t : Nat → Nat → Nat) (i j x : Nat) : tb_u t i j x i j = x := if_pos ⟨rfl, rfl⟩
theorem tb_un {t : Nat → Nat → Nat} {i j x r c : Nat} (h : ¬ (r = i ∧ c = j)) : tb_u t i j x r c = t r c := if_neg h
theorem tb_split {t : Nat → Nat → Nat} (T : tb_T t) {i j x : Nat} (hi : i < 10) (hj : j < 10) (hx : x < 100) (lo : ∀ c, c < j → t i c < x) (up : x < t i j) : ∃ A C : List Nat, (∀ a, a ∈ A → a < x) ∧ tb_rw (tb_u t i j x) i = A ++ x :: C ∧ ((t i j < 100 ∧ tb_rw t i = A ++ t i j :: C) ∨ (t i j = 100 ∧ tb_rw t i = A ∧ C = [])) := by
  obtain ⟨R, eR, hR⟩ := tb_rng hj
  have mA : ∀ a, a ∈ (List.range j).map (t i) → a < x := by
    intro a ha
    obtain ⟨c, hc, rfl⟩ := List.mem_map.mp ha
    exact lo c (List.mem_range.mp hc)
  have fA : ((List.range j).map (t i)).filter (fun v => decide (v < 100)) = (List.range j).map (t i) := by
    rw [List.filter_eq_self]
    intro a ha
    have := mA a ha
    simp only [decide_eq_true_eq]
    omega
  have uA : (List.range j).map (tb_u t i j x i) = (List.range j).map (t i) :=
    List.map_congr_left (fun c hc => tb_un (by have := List.mem_range.mp hc; omega))
  have uR : R.map (tb_u t i j x i) = R.map (t i) :=
    List.map_congr_left (fun c hc => tb_un (by have := hR c hc; omega))
  refine ⟨(List.range j).map (t i), (R.map (t i)).filter (fun v => decide (v < 100)), mA, ?_, ?_⟩
  · unfold tb_rw
    rw [eR, List.map_append, List.map_cons, uA, uR, tb_us, List.filter_append, fA, List.filter_cons_of_pos (by simpa using hx)]
  · by_cases f : t i j < 100
    · left
      refine ⟨f, ?_⟩
      unfold tb_rw
      rw [eR, List.map_append, List.map_cons, List.filter_append, fA, List.filter_cons_of_pos (by simpa using f)]
    · right
      have e100 : t i j = 100 := by have := T.1 i j hi hj; omega
      have eC : (R.map (t i)).filter (fun v => decide (v < 100)) = [] := by
        rw [List.filter_eq_nil_iff]
        intro a ha
        obtain ⟨c, hc, rfl⟩ := List.mem_map.mp ha
        have hc2 := hR c hc
        simp only [decide_eq_true_eq]
        intro hf
        have := tb_rl T hi hc2.2 hc2.1 hf
        omega
      refine ⟨e100, ?_, eC⟩
      unfold tb_rw
      rw [eR, List.map_append, List.map_cons, List.filter_append, fA, List.filter_cons_of_neg (by simpa using f), eC, List.append_nil]
def tb_c (c : Nat) : List Nat := if c < 100 then [c] else []
def tb_I (w : List Nat) (t : Nat → Nat → Nat) (i c : Nat) : Prop := tb_T t ∧ c ≤ 100 ∧ kn_E w (tb_w t i (10 - i) ++ (tb_c c ++ tb_w t 0 i)) ∧ (c < 100 → i = 0 ∨ ∃ jj, jj < 10 ∧ t (i - 1) jj < c ∧ (i < 10 → c < t i jj))
theorem tb_full {t : Nat → Nat → Nat} {i : Nat} (h : ∀ j, j < 10 → t i j < 100) : (tb_rw t i).length = 10 := by
  unfold tb_rw
  rw [List.filter_eq_self.mpr]
  · simp
  · intro a ha
    obtain ⟨c, hc, rfl⟩ := List.mem_map.mp ha
    simpa using h c (List.mem_range.mp hc)
theorem tb_step {w : List Nat} (hn : w.Nodup) (hl : w.length ≤ 10) {t : Nat → Nat → Nat} {i c : Nat} (I : tb_I w t i c) (hi : i < 10) (hc : c < 100) {j : Nat} (hj : j ≤ 10) (lo : ∀ q, q < j → t i q ≤ c) (up : j < 10 → c < t i j) : j < 10 ∧ tb_I w (tb_u t i j c) (i + 1) (t i j) := by
  obtain ⟨T, _, K, Q⟩ := I
  have e10 : 10 - i = (10 - (i + 1)) + 1 := by omega
  rw [e10, tb_w] at K
  have ec : tb_c c = [c] := if_pos hc
  rw [ec] at K
  have hj10 : j < 10 := by
    apply Classical.byContradiction
    intro hnj
    have hf : (tb_rw t i).length = 10 := tb_full (fun q hq => Nat.lt_of_le_of_lt (lo q (by omega)) hc)
    have := K.2.2.length_eq
    simp only [List.length_append, List.length_cons, List.length_nil, hf] at this
    omega
  have up := up hj10
  have nd := K.2.2.nodup_iff.mp hn
  have lo' : ∀ q, q < j → t i q < c := by
    intro q hq
    have h1 := lo q hq
    have h2 : t i q ≠ c := (List.nodup_append.mp nd).2.2 (t i q) (List.mem_append.mpr (Or.inr (tb_mem (by omega) (by omega)))) c (by simp)
    omega
  have bd : t i j ≤ 100 := T.1 i j hi hj10
  refine ⟨hj10, ⟨?_, ?_, ?_⟩, bd, ?_, ?_⟩
  · intro r q hr hq
    by_cases e : r = i ∧ q = j
    · obtain ⟨rfl, rfl⟩ := e; rw [tb_us]; omega
    · rw [tb_un e]; exact T.1 r q hr hq
  · intro r q hr hq hf
    by_cases e : r = i ∧ q = j
    · obtain ⟨rfl, rfl⟩ := e
      rw [tb_us]
      rw [tb_un (by omega)] at hf ⊢
      have := T.2.1 r q hr hq hf
      omega
    · rw [tb_un e]
      by_cases e2 : r = i ∧ q + 1 = j
      · obtain ⟨rfl, e3⟩ := e2
        rw [e3, tb_us]
        exact lo' q (by omega)
      · rw [tb_un e2] at hf ⊢
        exact T.2.1 r q hr hq hf
  · intro r q hr hq hf
    by_cases e : r = i ∧ q = j
    · obtain ⟨rfl, rfl⟩ := e
      rw [tb_us]
      rw [tb_un (by omega)] at hf ⊢
      have := T.2.2 r q hr hq hf
      omega
    · rw [tb_un e]
      by_cases e2 : r + 1 = i ∧ q = j
      · obtain ⟨e3, rfl⟩ := e2
        rw [e3, tb_us]
        rcases Q hc with z | ⟨jj, hjj, h1, h2⟩
        · omega
        · have h2 := h2 hi
          have e4 : i - 1 = r := by omega
          rw [e4] at h1
          have hle : q ≤ jj := by
            apply Classical.byContradiction
            intro hn2
            have := lo jj (by omega)
            omega
          by_cases e5 : q = jj
          · rw [e5]; exact h1
          · have := tb_rl T (by omega : r < 10) hjj (by omega : q < jj) (by omega)
            omega
      · rw [tb_un e2] at hf ⊢
        exact T.2.2 r q hr hq hf
  · obtain ⟨A, C, hA, eN, hO⟩ := tb_split T hi hj10 hc lo' up
    have eH : tb_w (tb_u t i j c) (i + 1) (10 - (i + 1)) = tb_w t (i + 1) (10 - (i + 1)) := tb_wC _ _ (fun r h1 h2 q _ => tb_un (by omega))
    have eD : tb_w (tb_u t i j c) 0 (i + 1) = (A ++ c :: C) ++ tb_w t 0 i := by
      rw [tb_top, Nat.zero_add, eN, tb_wC (t := tb_u t i j c) (t' := t) i 0 (fun r h1 h2 q _ => tb_un (by omega))]
    rw [eH, eD]
    refine kn_trans K ?_
    rcases hO with ⟨f, e⟩ | ⟨f, e, eC⟩
    · have eb : tb_c (t i j) = [t i j] := if_pos f
      have hs : (A ++ t i j :: C).Pairwise (fun a b => a < b) := e ▸ tb_pw T hi
      have h := kn_row (A := A) (C := C) (U := tb_w t (i + 1) (10 - (i + 1))) (V := tb_w t 0 i) (x := c) (b := t i j) hs hA up
      rw [eb, e, List.append_assoc]
      exact h
    · have eb : tb_c (t i j) = [] := if_neg (by omega)
      rw [eb, e, eC]
      exact kn_eq (by simp)
  · intro hb
    right
    refine ⟨j, hj10, ?_, ?_⟩
    · rw [Nat.add_sub_cancel, tb_us]; exact up
    · intro h1
      rw [tb_un (by omega)]
      by_cases f : t (i + 1) j < 100
      · exact T.2.2 i j h1 hj10 f
      · omega
theorem tb_skip {w : List Nat} {t : Nat → Nat → Nat} {i : Nat} (I : tb_I w t i 100) (hi : i < 10) : tb_I w t (i + 1) 100 := by
  obtain ⟨T, h, K, _⟩ := I
  refine ⟨T, h, ?_, fun hh => absurd hh (by omega)⟩
  have e10 : 10 - i = (10 - (i + 1)) + 1 := by omega
  rw [e10, tb_w] at K
  rw [tb_top, Nat.zero_add]
  refine kn_trans K (kn_eq ?_)
  have ec : tb_c 100 = [] := if_neg (by omega)
  rw [ec]
  simp
theorem tb_long {t : Nat → Nat → Nat} : ∀ d i, (∀ r, i ≤ r → r < i + d → tb_rw t r ≠ []) → d ≤ (tb_w t i d).length := by
  intro d
  induction d with
  | zero => intro _ _; exact Nat.zero_le _
  | succ d ih =>
    intro i h
    have h1 := ih (i + 1) (fun r a b => h r (by omega) (by omega))
    have h2 := List.length_pos_iff.mpr (h i (by omega) (by omega))
    rw [tb_w, List.length_append]
    omega
theorem tb_end {w : List Nat} (hl : w.length ≤ 10) {t : Nat → Nat → Nat} {c : Nat} (I : tb_I w t 10 c) : tb_T t ∧ kn_E w (tb_w t 0 10) := by
  obtain ⟨T, hc, K, Q⟩ := I
  have e0 : tb_w t 10 (10 - 10) = [] := rfl
  rw [e0] at K
  by_cases h : c < 100
  · exfalso
    rcases Q h with z | ⟨jj, hjj, h1, _⟩
    · omega
    · have h1 : t 9 jj < c := h1
      have hL := tb_long (t := t) 10 0 (fun r _ h3 => by
        have f : t r jj < 100 := by
          by_cases e : r = 9
          · rw [e]; omega
          · have := tb_cl T hjj (by omega : 9 < 10) (by omega : r < 9) (by omega)
            omega
        exact List.ne_nil_of_mem (tb_mem hjj f))
      have := K.2.2.length_eq
      rw [tb_c, if_pos h] at this
      simp only [List.length_append, List.length_cons, List.length_nil] at this
      omega
  · rw [tb_c, if_neg h] at K
    exact ⟨T, K⟩
theorem tb_begin {w : List Nat} {t : Nat → Nat → Nat} {x : Nat} (T : tb_T t) (hx : x < 100) (K : kn_E w (tb_w t 0 10)) : tb_I (w ++ [x]) t 0 x := by
  refine ⟨T, by omega, ?_, fun _ => Or.inl rfl⟩
  have ec : tb_c x = [x] := if_pos hx
  rw [ec]
  exact kn_app [x] K
theorem tb_rw0 {t : Nat → Nat → Nat} {i : Nat} (h : ∀ j, j < 10 → t i j = 100) : tb_rw t i = [] := by
  unfold tb_rw
  rw [List.filter_eq_nil_iff]
  intro a ha
  obtain ⟨c, hc, rfl⟩ := List.mem_map.mp ha
  rw [h c (List.mem_range.mp hc)]
  decide
theorem tb_w0 {t : Nat → Nat → Nat} : ∀ d i, (∀ r, i ≤ r → r < i + d → ∀ j, j < 10 → t r j = 100) → tb_w t i d = [] := by
  intro d
  induction d with
  | zero => intro _ _; rfl
  | succ d ih =>
    intro i h
    rw [tb_w, ih (i + 1) (fun r a b => h r (by omega) (by omega)), tb_rw0 (h i (by omega) (by omega))]
    rfl
theorem tb_free {t : Nat → Nat → Nat} (h : ∀ i j, i < 10 → j < 10 → t i j = 100) : tb_T t ∧ kn_E [] (tb_w t 0 10) := by
  refine ⟨⟨fun i j hi hj => by rw [h i j hi hj]; omega, fun i j hi hj hf => ?_, fun i j hi hj hf => ?_⟩, ?_⟩
  · rw [h i (j + 1) hi hj] at hf; omega
  · rw [h (i + 1) j hi hj] at hf; omega
  · rw [tb_w0 10 0 (fun r _ h2 j hj => h r j (by omega) hj)]
    exact kn_refl _
end
end
section
section
def tv_f (t : Nat → Nat → Nat) (i j : Nat) : Nat := if t i j < 100 then 1 else 0
/-- filled cells of the first a lines and b columns -/
def tv_fc (t : Nat → Nat → Nat) (a b : Nat) : Nat := sm_s (fun i => sm_s (fun j => tv_f t i j) b) a
theorem tv_f1 (t : Nat → Nat → Nat) (i j : Nat) : tv_f t i j ≤ 1 := by unfold tv_f; split <;> omega
theorem tv_ff {t : Nat → Nat → Nat} {i j : Nat} (h : t i j < 100) : tv_f t i j = 1 := if_pos h
theorem tv_fi {t : Nat → Nat → Nat} {i j : Nat} (h : tv_f t i j = 1) : t i j < 100 := by
  unfold tv_f at h
  split at h
  · assumption
  · omega
theorem tv_rowcl {t : Nat → Nat → Nat} (T : tb_T t) {i : Nat} (hi : i < 10) : ∀ j, j + 1 < 10 → tv_f t i (j + 1) = 1 → tv_f t i j = 1 := by
  intro j hj h
  have f := tv_fi h
  have := T.2.1 i j hi hj f
  exact tv_ff (by omega)
theorem tv_colcl {t : Nat → Nat → Nat} (T : tb_T t) {j : Nat} (hj : j < 10) : ∀ i, i + 1 < 10 → tv_f t (i + 1) j = 1 → tv_f t i j = 1 := by
  intro i hi h
  have f := tv_fi h
  have := T.2.2 i j hi hj f
  exact tv_ff (by omega)
theorem tv_flen (q : Nat → Bool) : ∀ n, ((List.range n).filter q).length = sm_s (fun j => if q j = true then 1 else 0) n := by
  intro n
  induction n with
  | zero => rfl
  | succ n ih =>
    rw [List.range_succ, List.filter_append, List.length_append, ih, sm_s]
    congr 1
    by_cases h : q n = true
    · simp [h]
    · simp [h]
theorem tv_rwlen (t : Nat → Nat → Nat) (i : Nat) : (tb_rw t i).length = sm_s (fun j => tv_f t i j) 10 := by
  unfold tb_rw
  rw [List.filter_map, List.length_map, tv_flen]
  refine sm_congr 10 (fun j _ => ?_)
  simp only [Function.comp_def, decide_eq_true_eq, tv_f]
theorem tv_wlen (t : Nat → Nat → Nat) : ∀ d, (tb_w t 0 d).length = tv_fc t d 10 := by
  intro d
  induction d with
  | zero => rfl
  | succ d ih =>
    rw [tb_top, List.length_append, ih, Nat.zero_add, tv_rwlen]
    show _ = tv_fc t d 10 + sm_s (fun j => tv_f t d j) 10
    omega
theorem tv_NBle {R : Nat → Nat → Prop} {a b : Nat} {S : List Nat} (h : a ≤ b) (H : gr_NB R a S) : gr_NB R b S := fun C h1 h2 => Nat.le_trans (H C h1 h2) h
theorem tv_both {C : List Nat} (h1 : C.Pairwise (fun a b => a < b)) (h2 : C.Pairwise (fun a b => b < a)) : C.length ≤ 1 := by
  cases C with
  | nil => exact Nat.zero_le _
  | cons a C =>
    cases C with
    | nil => exact Nat.le_refl _
    | cons b C =>
      have e1 := (List.pairwise_cons.mp h1).1 b (by simp)
      have e2 := (List.pairwise_cons.mp h2).1 b (by simp)
      omega
theorem tv_NBrows {t : Nat → Nat → Nat} (T : tb_T t) : ∀ d, d ≤ 10 → gr_NB (fun a b => b < a) d (tb_w t 0 d) := by
  intro d
  induction d with
  | zero =>
    intro _ C h1 _
    have h1 : List.Sublist C [] := h1
    rw [List.sublist_nil.mp h1]
    exact Nat.le_refl _
  | succ d ih =>
    intro hd C h1 h2
    rw [tb_top, Nat.zero_add] at h1
    obtain ⟨C1, C2, rfl, s1, s2⟩ := List.sublist_append_iff.mp h1
    obtain ⟨p1, p2, _⟩ := List.pairwise_append.mp h2
    have a1 := tv_both ((tb_pw T (by omega : d < 10)).sublist s1) p1
    have a2 := ih (by omega) C2 s2 p2
    rw [List.length_append]
    omega
/-- the first k lines have no falling chain longer than k -/
theorem tv_reachG {t : Nat → Nat → Nat} (T : tb_T t) (k : Nat) : gr_G (fun a b => b < a) k (tb_w t 0 10) (tv_fc t (min k 10) 10) := by
  refine ⟨tb_w t 0 (min k 10), ?_, tv_wlen t _, tv_NBle (Nat.min_le_left k 10) (tv_NBrows T _ (Nat.min_le_right k 10))⟩
  have e : (10 : Nat) = min k 10 + (10 - min k 10) := by have := Nat.min_le_right k 10; omega
  have h := tb_wA t 0 (min k 10) (10 - min k 10)
  rw [← e] at h
  rw [h]
  exact List.sublist_append_right _ _
theorem tv_topL {t : Nat → Nat → Nat} (T : tb_T t) {k : Nat} : ∀ d, d ≤ 10 → ∀ S : List Nat, List.Sublist S (tb_w t 0 d) → gr_NB (fun a b => a < b) k S → S.length ≤ tv_fc t d (min k 10) := by
  intro d
  induction d with
  | zero =>
    intro _ S h _
    have h : List.Sublist S [] := h
    rw [List.sublist_nil.mp h]
    exact Nat.le_refl _
  | succ d ih =>
    intro hd S h hb
    rw [tb_top, Nat.zero_add] at h
    obtain ⟨S1, S2, rfl, s1, s2⟩ := List.sublist_append_iff.mp h
    have b2 := ih (by omega) S2 s2 (fun C c1 c2 => hb C (c1.trans (List.sublist_append_right _ _)) c2)
    have p1 := (tb_pw T (by omega : d < 10)).sublist s1
    have b1 := hb S1 (List.sublist_append_left _ _) p1
    have b3 := s1.length_le
    rw [tv_rwlen] at b3
    have b4 := sm_cl (f := fun j => tv_f t d j) (tv_f1 t d) (tv_rowcl T (by omega)) b1 b3
    rw [List.length_append]
    show _ ≤ tv_fc t d (min k 10) + sm_s (fun j => tv_f t d j) (min k 10)
    omega
/-- the cells of line i, then of the lines i .. i + d - 1, in the reading word's order -/
def tv_cr (t : Nat → Nat → Nat) (i : Nat) : List (Nat × Nat) := ((List.range 10).filter (fun j => decide (t i j < 100))).map (fun j => (i, j))
def tv_cw (t : Nat → Nat → Nat) : Nat → List (Nat × Nat)
  | 0 => []
  | d + 1 => tv_cr t d ++ tv_cw t d
theorem tv_crw (t : Nat → Nat → Nat) (i : Nat) : (tv_cr t i).map (fun c => t c.1 c.2) = tb_rw t i := by
  unfold tv_cr tb_rw
  rw [List.filter_map, List.map_map]
  rfl
theorem tv_cww (t : Nat → Nat → Nat) : ∀ d, (tv_cw t d).map (fun c => t c.1 c.2) = tb_w t 0 d := by
  intro d
  induction d with
  | zero => rfl
  | succ d ih => rw [tb_top, Nat.zero_add, tv_cw, List.map_append, ih, tv_crw]
theorem tv_crm {t : Nat → Nat → Nat} {i : Nat} {c : Nat × Nat} (h : c ∈ tv_cr t i) : c.1 = i ∧ c.2 < 10 ∧ t c.1 c.2 < 100 := by
  obtain ⟨j, hj, rfl⟩ := List.mem_map.mp h
  obtain ⟨h1, h2⟩ := List.mem_filter.mp hj
  exact ⟨rfl, List.mem_range.mp h1, by simpa using h2⟩
theorem tv_cwm {t : Nat → Nat → Nat} : ∀ {d : Nat} {c : Nat × Nat}, c ∈ tv_cw t d → c.1 < d ∧ c.2 < 10 ∧ t c.1 c.2 < 100 := by
  intro d
  induction d with
  | zero => intro c h; exact absurd (show c ∈ [] from h) (by simp)
  | succ d ih =>
    intro c h
    rcases List.mem_append.mp h with h | h
    · obtain ⟨h1, h2, h3⟩ := tv_crm h
      exact ⟨by omega, h2, h3⟩
    · obtain ⟨h1, h2, h3⟩ := ih h
      exact ⟨by omega, h2, h3⟩
def tv_o (a b : Nat × Nat) : Prop := b.1 < a.1 ∨ (a.1 = b.1 ∧ a.2 < b.2)
theorem tv_cwp (t : Nat → Nat → Nat) : ∀ d, (tv_cw t d).Pairwise tv_o := by
  intro d
  induction d with
  | zero => exact List.Pairwise.nil
  | succ d ih =>
    refine List.pairwise_append.mpr ⟨?_, ih, ?_⟩
    · unfold tv_cr
      rw [List.pairwise_map]
      exact ((List.pairwise_lt_range (n := 10)).filter _).imp (fun h => Or.inr ⟨rfl, h⟩)
    · intro a ha b hb
      left
      have h1 := (tv_crm ha).1
      have h2 := (tv_cwm hb).1
      omega
theorem tv_part (n : Nat) : ∀ C : List (Nat × Nat), (∀ c, c ∈ C → c.2 < n) → C.length = sm_s (fun j => (C.filter (fun c => decide (c.2 = j))).length) n := by
  intro C
  induction C with
  | nil => intro _; exact (sm_zero n (fun _ _ => rfl)).symm
  | cons c C ih =>
    intro h
    have h1 := ih (fun x hx => h x (by simp [hx]))
    have e : ∀ j, (((c :: C).filter (fun c => decide (c.2 = j))).length) = (if c.2 = j then 1 else 0) + (C.filter (fun c => decide (c.2 = j))).length := by
      intro j
      by_cases hj : c.2 = j
      · rw [List.filter_cons_of_pos (by simpa using hj), if_pos hj, List.length_cons, Nat.add_comm]
      · rw [List.filter_cons_of_neg (by simpa using hj), if_neg hj, Nat.zero_add]
    rw [sm_congr n (fun j _ => e j), sm_add, sm_delta, if_pos (h c (by simp)), List.length_cons, h1, Nat.add_comm]
theorem tv_topG {t : Nat → Nat → Nat} (T : tb_T t) {k m : Nat} (h : gr_G (fun a b => b < a) k (tb_w t 0 10) m) : m ≤ tv_fc t (min k 10) 10 := by
  obtain ⟨S, hS, rfl, hb⟩ := h
  rw [← tv_cww] at hS
  obtain ⟨C, hC, rfl⟩ := List.sublist_map_iff.mp hS
  have mC : ∀ c, c ∈ C → c.1 < 10 ∧ c.2 < 10 ∧ t c.1 c.2 < 100 := fun c hc => tv_cwm (hC.subset hc)
  have pC := (tv_cwp t 10).sublist hC
  rw [List.length_map, tv_part 10 C (fun c hc => (mC c hc).2.1)]
  unfold tv_fc
  rw [sm_swap]
  refine sm_le 10 (fun j hj => ?_)
  have hsub : List.Sublist (C.filter (fun c => decide (c.2 = j))) C := List.filter_sublist
  have hp : (C.filter (fun c => decide (c.2 = j))).Pairwise (fun a b => b.1 < a.1 ∧ a.2 = j ∧ b.2 = j) := by
    refine List.Pairwise.imp_of_mem ?_ (pC.sublist hsub)
    intro a b ha hb' o
    have e1 : a.2 = j := by simpa using (List.mem_filter.mp ha).2
    have e2 : b.2 = j := by simpa using (List.mem_filter.mp hb').2
    rcases o with o | o
    · exact ⟨o, e1, e2⟩
    · omega
  have l1 : (C.filter (fun c => decide (c.2 = j))).length ≤ k := by
    have h1 := hb ((C.filter (fun c => decide (c.2 = j))).map (fun c => t c.1 c.2)) (hsub.map _) (by
      rw [List.pairwise_map]
      refine List.Pairwise.imp_of_mem ?_ hp
      intro a b ha hb' o
      have ma := mC a (hsub.subset ha)
      obtain ⟨o1, o2, o3⟩ := o
      rw [o2] at ma ⊢
      rw [o3]
      exact tb_cl T hj ma.1 o1 ma.2.2)
    rwa [List.length_map] at h1
  have l2 : (C.filter (fun c => decide (c.2 = j))).length ≤ sm_s (fun i => tv_f t i j) 10 := by
    have h1 := sm_len (f := fun i => tv_f t i j) 10 ((C.filter (fun c => decide (c.2 = j))).map (fun c => c.1)) (by
      rw [List.pairwise_map]
      exact hp.imp (fun h => h.1)) (by
      intro x hx
      obtain ⟨c, hc, rfl⟩ := List.mem_map.mp hx
      have e1 : c.2 = j := by simpa using (List.mem_filter.mp hc).2
      have m := mC c (hsub.subset hc)
      rw [e1] at m
      exact ⟨m.1, tv_ff m.2.2⟩)
    rwa [List.length_map] at h1
  exact sm_cl (fun i => tv_f1 t i j) (tv_colcl T hj) l1 l2
theorem tv_reachL {t : Nat → Nat → Nat} (T : tb_T t) (k : Nat) : gr_G (fun a b => a < b) k (tb_w t 0 10) (tv_fc t 10 (min k 10)) := by
  refine ⟨((tv_cw t 10).filter (fun c => decide (c.2 < k))).map (fun c => t c.1 c.2), ?_, ?_, ?_⟩
  · rw [← tv_cww]
    exact List.filter_sublist.map _
  · rw [List.length_map]
    have H : ∀ d, ((tv_cw t d).filter (fun c => decide (c.2 < k))).length = tv_fc t d (min k 10) := by
      intro d
      induction d with
      | zero => rfl
      | succ d ih =>
        rw [tv_cw, List.filter_append, List.length_append, ih]
        have e : ((tv_cr t d).filter (fun c => decide (c.2 < k))).length = sm_s (fun j => tv_f t d j) (min k 10) := by
          unfold tv_cr
          rw [List.filter_map, List.length_map, List.filter_filter, tv_flen, ← sm_cut]
          refine sm_congr 10 (fun j _ => ?_)
          simp only [Function.comp_def, Bool.and_eq_true, decide_eq_true_eq, tv_f]
          by_cases h1 : j < k
          · by_cases h2 : t d j < 100
            · simp [h1, h2]
            · simp [h1, h2]
          · simp [h1]
        rw [e]
        show _ = tv_fc t d (min k 10) + sm_s (fun j => tv_f t d j) (min k 10)
        omega
    exact H 10
  · intro D hD pD
    obtain ⟨C, hC, rfl⟩ := List.sublist_map_iff.mp hD
    have hC2 : List.Sublist C (tv_cw t 10) := hC.trans List.filter_sublist
    have mC : ∀ c, c ∈ C → c.1 < 10 ∧ c.2 < 10 ∧ t c.1 c.2 < 100 := fun c hc => tv_cwm (hC2.subset hc)
    rw [List.pairwise_map] at pD
    have hp : C.Pairwise (fun a b => a.2 < b.2) := by
      refine List.Pairwise.imp_of_mem ?_ (pD.and ((tv_cwp t 10).sublist hC2))
      intro a b ha hb' o
      obtain ⟨o1, o2⟩ := o
      have ma := mC a ha
      have mb := mC b hb'
      rcases o2 with o2 | o2
      · apply Classical.byContradiction
        intro hn
        have h1 : t b.1 b.2 < t b.1 a.2 ∨ b.2 = a.2 := by
          by_cases e : b.2 = a.2
          · exact Or.inr e
          · left
            have f : t b.1 a.2 < 100 := by have := tb_cl T ma.2.1 ma.1 o2 ma.2.2; omega
            exact tb_rl T mb.1 ma.2.1 (by omega) f
        have h2 := tb_cl T ma.2.1 ma.1 o2 ma.2.2
        rcases h1 with h1 | h1
        · omega
        · rw [h1] at o1; omega
      · exact o2.2
    have h1 := sm_lenK (n := k) (L := C.map (fun c => c.2)) (by rw [List.pairwise_map]; exact hp) (by
      intro x hx
      obtain ⟨c, hc, rfl⟩ := List.mem_map.mp hx
      simpa using (List.mem_filter.mp (hC.subset hc)).2)
    rw [List.length_map] at h1 ⊢
    exact h1
/-- m is the greatest size for w -/
def gr_M (R : Nat → Nat → Prop) (k : Nat) (w : List Nat) (m : Nat) : Prop := gr_G R k w m ∧ ∀ m', gr_G R k w m' → m' ≤ m
theorem gr_Mu {R : Nat → Nat → Prop} {k : Nat} {w : List Nat} {a b : Nat} (h : gr_M R k w a) (g : gr_M R k w b) : a = b := Nat.le_antisymm (g.2 a h.1) (h.2 b g.1)
theorem tv_rise {w : List Nat} {t : Nat → Nat → Nat} (T : tb_T t) (K : kn_E w (tb_w t 0 10)) (k : Nat) : gr_M (fun a b => b < a) k w (tv_fc t (min k 10) 10) := by
  have e := K.2.1 []
  simp only [List.append_nil] at e
  exact ⟨(e k _).mpr (tv_reachG T k), fun m hm => tv_topG T ((e k m).mp hm)⟩
theorem tv_fall {w : List Nat} {t : Nat → Nat → Nat} (T : tb_T t) (K : kn_E w (tb_w t 0 10)) (k : Nat) : gr_M (fun a b => a < b) k w (tv_fc t 10 (min k 10)) := by
  have e := K.1 []
  simp only [List.append_nil] at e
  refine ⟨(e k _).mpr (tv_reachL T k), fun m hm => ?_⟩
  obtain ⟨S, s1, s2, s3⟩ := (e k m).mp hm
  rw [← s2]
  exact tv_topL T 10 (Nat.le_refl _) S s1 s3
end
end
section
section
/-- the numbers at the chosen places below n -/
def sl_l (f : Nat → Nat) (b : Nat → Bool) : Nat → List Nat
  | 0 => []
  | n + 1 => sl_l f b n ++ (if b n = true then [f n] else [])
theorem sl_t {f : Nat → Nat} {b : Nat → Bool} {n : Nat} (h : b n = true) : sl_l f b (n + 1) = sl_l f b n ++ [f n] := by rw [sl_l, if_pos h]
theorem sl_f {f : Nat → Nat} {b : Nat → Bool} {n : Nat} (h : ¬ b n = true) : sl_l f b (n + 1) = sl_l f b n := by rw [sl_l, if_neg h, List.append_nil]
theorem sl_len (f : Nat → Nat) (b : Nat → Bool) : ∀ n, (sl_l f b n).length = sm_s (fun i => if b i = true then 1 else 0) n := by
  intro n
  induction n with
  | zero => rfl
  | succ n ih =>
    by_cases h : b n = true
    · rw [sl_t h, List.length_append, ih, sm_s, if_pos h]; rfl
    · rw [sl_f h, ih, sm_s, if_neg h]; rfl
theorem sl_congr {f f' : Nat → Nat} {b b' : Nat → Bool} : ∀ n, (∀ i, i < n → b i = b' i ∧ f i = f' i) → sl_l f b n = sl_l f' b' n := by
  intro n
  induction n with
  | zero => intro _; rfl
  | succ n ih =>
    intro h
    have h1 := h n (by omega)
    rw [sl_l, sl_l, ih (fun i hi => h i (by omega)), h1.1, h1.2]
theorem sl_sub {f : Nat → Nat} {b b' : Nat → Bool} : ∀ n, (∀ i, i < n → b i = true → b' i = true) → List.Sublist (sl_l f b n) (sl_l f b' n) := by
  intro n
  induction n with
  | zero => intro _; exact List.Sublist.refl _
  | succ n ih =>
    intro h
    have h1 := ih (fun i hi => h i (by omega))
    by_cases e : b n = true
    · rw [sl_t e, sl_t (h n (by omega) e)]
      exact h1.append (List.Sublist.refl _)
    · rw [sl_f e]
      exact h1.trans (List.sublist_append_left _ _)
theorem sl_pre {f : Nat → Nat} {b : Nat → Bool} (n : Nat) : ∀ d, List.Sublist (sl_l f b n) (sl_l f b (n + d)) := by
  intro d
  induction d with
  | zero => exact List.Sublist.refl _
  | succ d ih => exact ih.trans (List.sublist_append_left _ _)
theorem sl_preL {f : Nat → Nat} {b : Nat → Bool} {m n : Nat} (h : m ≤ n) : List.Sublist (sl_l f b m) (sl_l f b n) := by
  have h1 := sl_pre (f := f) (b := b) m (n - m)
  rwa [show m + (n - m) = n by omega] at h1
theorem sl_mem {f : Nat → Nat} {b : Nat → Bool} {x : Nat} : ∀ {n : Nat}, x ∈ sl_l f b n → ∃ i, i < n ∧ b i = true ∧ x = f i := by
  intro n
  induction n with
  | zero => intro h; exact absurd (show x ∈ [] from h) (by simp)
  | succ n ih =>
    intro h
    by_cases e : b n = true
    · rw [sl_t e] at h
      rcases List.mem_append.mp h with h | h
      · obtain ⟨i, h1, h2, h3⟩ := ih h
        exact ⟨i, by omega, h2, h3⟩
      · exact ⟨n, by omega, e, List.mem_singleton.mp h⟩
    · rw [sl_f e] at h
      obtain ⟨i, h1, h2, h3⟩ := ih h
      exact ⟨i, by omega, h2, h3⟩
theorem sl_nd {f : Nat → Nat} {b : Nat → Bool} : ∀ {n : Nat}, (∀ i j, i < n → j < n → f i = f j → i = j) → (sl_l f b n).Nodup := by
  intro n
  induction n with
  | zero => intro _; exact List.nodup_nil
  | succ n ih =>
    intro h
    have h1 := ih (fun i j hi hj e => h i j (by omega) (by omega) e)
    by_cases e : b n = true
    · rw [sl_t e]
      refine List.nodup_append.mpr ⟨h1, by simp, ?_⟩
      intro a ha c hc
      rw [List.mem_singleton.mp hc]
      obtain ⟨i, i1, _, i3⟩ := sl_mem ha
      rw [i3]
      intro ee
      have := h i n (by omega) (by omega) ee
      omega
    · rw [sl_f e]; exact h1
theorem sl_last {f : Nat → Nat} {b : Nat → Bool} : ∀ {n : Nat} {C : List Nat}, List.Sublist C (sl_l f b n) → C = [] ∨ ∃ j C', j < n ∧ b j = true ∧ C = C' ++ [f j] ∧ List.Sublist C' (sl_l f b j) := by
  intro n
  induction n with
  | zero => intro C h; exact Or.inl (List.sublist_nil.mp h)
  | succ n ih =>
    intro C h
    by_cases e : b n = true
    · rw [sl_t e] at h
      obtain ⟨C1, C2, rfl, h1, h2⟩ := List.sublist_append_iff.mp h
      rcases List.sublist_cons_iff.mp h2 with h3 | ⟨r, rfl, h3⟩
      · have e2 : C2 = [] := List.sublist_nil.mp h3
        rw [e2, List.append_nil]
        rcases ih h1 with z | ⟨j, C', a1, a2, a3, a4⟩
        · exact Or.inl z
        · exact Or.inr ⟨j, C', by omega, a2, a3, a4⟩
      · have e2 : r = [] := List.sublist_nil.mp h3
        rw [e2]
        exact Or.inr ⟨n, C1, by omega, e, rfl, h1⟩
    · rw [sl_f e] at h
      rcases ih h with z | ⟨j, C', a1, a2, a3, a4⟩
      · exact Or.inl z
      · exact Or.inr ⟨j, C', by omega, a2, a3, a4⟩
/-- an R-chain of length m among the chosen places ends at i -/
def rn_E (R : Nat → Nat → Prop) (f : Nat → Nat) (b : Nat → Bool) (i m : Nat) : Prop := b i = true ∧ ∃ C : List Nat, List.Sublist C (sl_l f b i) ∧ (C ++ [f i]).Pairwise R ∧ C.length + 1 = m
theorem rn_1 {R : Nat → Nat → Prop} {f : Nat → Nat} {b : Nat → Bool} {i : Nat} (h : b i = true) : rn_E R f b i 1 := ⟨h, [], List.nil_sublist _, by simp, rfl⟩
theorem rn_s {R : Nat → Nat → Prop} (tr : ∀ a b c, R a b → R b c → R a c) {f : Nat → Nat} {b : Nat → Bool} {i j m : Nat} (h : rn_E R f b j m) (hj : j < i) (hb : b i = true) (hR : R (f j) (f i)) : rn_E R f b i (m + 1) := by
  obtain ⟨bj, C, h1, h2, h3⟩ := h
  refine ⟨hb, C ++ [f j], ?_, ?_, by rw [List.length_append]; simpa using h3⟩
  · have h4 : List.Sublist (C ++ [f j]) (sl_l f b (j + 1)) := by rw [sl_t bj]; exact h1.append (List.Sublist.refl _)
    exact h4.trans (sl_preL hj)
  · refine List.pairwise_append.mpr ⟨h2, by simp, ?_⟩
    intro a ha c hc
    rw [List.mem_singleton.mp hc]
    rcases List.mem_append.mp ha with ha | ha
    · exact tr _ _ _ ((List.pairwise_append.mp h2).2.2 a ha (f j) (by simp)) hR
    · rw [List.mem_singleton.mp ha]; exact hR
theorem rn_i {R : Nat → Nat → Prop} {f : Nat → Nat} {b : Nat → Bool} {i m : Nat} (h : rn_E R f b i m) (hm : 2 ≤ m) : ∃ j, j < i ∧ b j = true ∧ R (f j) (f i) ∧ rn_E R f b j (m - 1) := by
  obtain ⟨bi, C, h1, h2, h3⟩ := h
  rcases sl_last h1 with z | ⟨j, C', a1, a2, a3, a4⟩
  · rw [z] at h3
    simp only [List.length_nil] at h3
    omega
  · rw [a3] at h2 h3
    obtain ⟨p1, _, p3⟩ := List.pairwise_append.mp h2
    refine ⟨j, a1, a2, p3 (f j) (by simp) (f i) (by simp), a2, C', a4, p1, ?_⟩
    rw [List.length_append, List.length_singleton] at h3
    omega
/-- v is the length of the longest chain that ends at i, 0 if i isn't chosen -/
def rn_V (R : Nat → Nat → Prop) (f : Nat → Nat) (b : Nat → Bool) (i v : Nat) : Prop := (b i = true → rn_E R f b i v ∧ ∀ m, rn_E R f b i m → m ≤ v) ∧ (¬ b i = true → v = 0)
def rn_J (R : Nat → Nat → Prop) (f : Nat → Nat) (b : Nat → Bool) (i : Nat) (be : Nat → Nat) (j v : Nat) : Prop := (b i = true → rn_E R f b i v ∧ ∀ q, q < j → b q = true → R (f q) (f i) → be q + 1 ≤ v) ∧ (¬ b i = true → v = 0)
theorem rn_J0 {R : Nat → Nat → Prop} {f : Nat → Nat} {b : Nat → Bool} {i : Nat} {be : Nat → Nat} : rn_J R f b i be 0 (if b i = true then 1 else 0) :=
  ⟨fun h => by rw [if_pos h]; exact ⟨rn_1 h, fun q hq => absurd hq (by omega)⟩, fun h => if_neg h⟩
theorem rn_Jt {R : Nat → Nat → Prop} (tr : ∀ a b c, R a b → R b c → R a c) {f : Nat → Nat} {b : Nat → Bool} {i : Nat} {be : Nat → Nat} {j v : Nat} (h : rn_J R f b i be j v) (hj : j < i) (V : rn_V R f b j (be j)) (bi : b i = true) (bj : b j = true) (r : R (f j) (f i)) (hv : v < be j + 1) : rn_J R f b i be (j + 1) (be j + 1) := by
  refine ⟨fun _ => ⟨rn_s tr (V.1 bj).1 hj bi r, ?_⟩, fun hn => absurd bi hn⟩
  intro q hq bq rq
  by_cases e : q = j
  · rw [e]; exact Nat.le_refl _
  · have := (h.1 bi).2 q (by omega) bq rq
    omega
theorem rn_Jk {R : Nat → Nat → Prop} {f : Nat → Nat} {b : Nat → Bool} {i : Nat} {be : Nat → Nat} {j v : Nat} (h : rn_J R f b i be j v) (hk : b i = true → b j = true → R (f j) (f i) → be j + 1 ≤ v) : rn_J R f b i be (j + 1) v := by
  refine ⟨fun bi => ⟨(h.1 bi).1, ?_⟩, h.2⟩
  intro q hq bq rq
  by_cases e : q = j
  · rw [e] at bq rq ⊢; exact hk bi bq rq
  · exact (h.1 bi).2 q (by omega) bq rq
theorem rn_Je {R : Nat → Nat → Prop} {f : Nat → Nat} {b : Nat → Bool} {i : Nat} {be : Nat → Nat} {v : Nat} (h : rn_J R f b i be i v) (V : ∀ q, q < i → rn_V R f b q (be q)) : rn_V R f b i v := by
  refine ⟨fun bi => ⟨(h.1 bi).1, ?_⟩, h.2⟩
  intro m hm
  by_cases h2 : 2 ≤ m
  · obtain ⟨j, j1, j2, j3, j4⟩ := rn_i hm h2
    have a := ((V j j1).1 j2).2 _ j4
    have c := (h.1 bi).2 j j1 j2 j3
    omega
  · obtain ⟨_, C, _, _, e⟩ := (h.1 bi).1
    omega
/-- M is the length of the longest chain among the chosen places below n -/
def rn_M (R : Nat → Nat → Prop) (f : Nat → Nat) (b : Nat → Bool) (n M : Nat) : Prop := gr_NB R M (sl_l f b n) ∧ ∃ C : List Nat, List.Sublist C (sl_l f b n) ∧ C.Pairwise R ∧ C.length = M
theorem rn_M0 {R : Nat → Nat → Prop} {f : Nat → Nat} {b : Nat → Bool} : rn_M R f b 0 0 :=
  ⟨fun C h _ => by rw [List.sublist_nil.mp (show List.Sublist C [] from h)]; exact Nat.le_refl _, [], List.nil_sublist _, List.Pairwise.nil, rfl⟩
theorem rn_Ms {R : Nat → Nat → Prop} {f : Nat → Nat} {b : Nat → Bool} {n M v : Nat} (h : rn_M R f b n M) (V : rn_V R f b n v) : rn_M R f b (n + 1) (if M < v then v else M) := by
  have up : ∀ C : List Nat, List.Sublist C (sl_l f b (n + 1)) → C.Pairwise R → C.length ≤ M ∨ C.length ≤ v := by
    intro C hC cC
    rcases sl_last hC with z | ⟨j, C', a1, a2, a3, a4⟩
    · left; rw [z]; exact Nat.zero_le _
    · by_cases e : j = n
      · right
        rw [e] at a2 a3 a4
        rw [a3] at cC ⊢
        have := (V.1 a2).2 (C'.length + 1) ⟨a2, C', a4, cC, rfl⟩
        rw [List.length_append, List.length_singleton]
        exact this
      · left
        refine h.1 C ?_ cC
        rw [a3]
        have h4 : List.Sublist (C' ++ [f j]) (sl_l f b (j + 1)) := by rw [sl_t a2]; exact a4.append (List.Sublist.refl _)
        exact h4.trans (sl_preL (by omega))
  by_cases lt : M < v
  · rw [if_pos lt]
    refine ⟨fun C hC cC => ?_, ?_⟩
    · rcases up C hC cC with u | u <;> omega
    · have bn : b n = true := by
        apply Classical.byContradiction
        intro hn
        have := V.2 hn
        omega
      obtain ⟨_, C, c1, c2, c3⟩ := (V.1 bn).1
      refine ⟨C ++ [f n], ?_, c2, by rw [List.length_append, List.length_singleton]; exact c3⟩
      rw [sl_t bn]
      exact c1.append (List.Sublist.refl _)
  · rw [if_neg lt]
    refine ⟨fun C hC cC => ?_, ?_⟩
    · rcases up C hC cC with u | u <;> omega
    · obtain ⟨C, c1, c2, c3⟩ := h.2
      exact ⟨C, c1.trans (sl_preL (by omega)), c2, c3⟩
theorem rn_le {R : Nat → Nat → Prop} {f : Nat → Nat} {b : Nat → Bool} {n M k : Nat} (h : rn_M R f b n M) : M ≤ k ↔ gr_NB R k (sl_l f b n) := by
  constructor
  · exact fun e => tv_NBle e h.1
  · intro e
    obtain ⟨C, c1, c2, c3⟩ := h.2
    rw [← c3]
    exact e C c1 c2
theorem sl_bitO (e q : Nat) : (2 ^ e + q).testBit e = !q.testBit e := Nat.testBit_two_pow_add_eq q e
theorem sl_bitL {e q j : Nat} (h : j < e) : (2 ^ e + q).testBit j = q.testBit j := Nat.testBit_two_pow_add_gt h q
theorem sl_bitZ {e q : Nat} (h : q < 2 ^ e) : q.testBit e = false := Nat.testBit_lt_two_pow h
theorem sl_mask {f : Nat → Nat} {b : Nat → Bool} : ∀ {n : Nat} {S : List Nat}, List.Sublist S (sl_l f b n) → ∃ p, p < 2 ^ n ∧ (∀ i, i < n → p.testBit i = true → b i = true) ∧ sl_l f p.testBit n = S := by
  intro n
  induction n with
  | zero => intro S h; exact ⟨0, by omega, fun i hi => absurd hi (by omega), (List.sublist_nil.mp (show List.Sublist S [] from h)).symm⟩
  | succ n ih =>
    intro S h
    have low : ∀ {S1 : List Nat}, List.Sublist S1 (sl_l f b n) → ∃ p, p < 2 ^ (n + 1) ∧ (∀ i, i < n + 1 → p.testBit i = true → b i = true) ∧ sl_l f p.testBit (n + 1) = S1 := by
      intro S1 h1
      obtain ⟨p, p1, p2, p3⟩ := ih h1
      have z := sl_bitZ p1
      refine ⟨p, by rw [Nat.pow_succ]; omega, ?_, ?_⟩
      · intro i hi hb
        by_cases e : i = n
        · rw [e, z] at hb; exact absurd hb (by decide)
        · exact p2 i (by omega) hb
      · rw [sl_f (by rw [z]; decide), p3]
    by_cases e : b n = true
    · rw [sl_t e] at h
      obtain ⟨C1, C2, rfl, h1, h2⟩ := List.sublist_append_iff.mp h
      rcases List.sublist_cons_iff.mp h2 with h3 | ⟨r, rfl, h3⟩
      · rw [List.sublist_nil.mp h3, List.append_nil]
        exact low h1
      · rw [List.sublist_nil.mp h3]
        obtain ⟨p, p1, p2, p3⟩ := ih h1
        have z := sl_bitZ p1
        refine ⟨2 ^ n + p, by rw [Nat.pow_succ]; omega, ?_, ?_⟩
        · intro i hi hb
          by_cases e2 : i = n
          · rw [e2]; exact e
          · rw [sl_bitL (by omega)] at hb
            exact p2 i (by omega) hb
        · rw [sl_t (by rw [sl_bitO, z]; rfl), ← p3]
          rw [sl_congr (f := f) (f' := f) (b := (2 ^ n + p).testBit) (b' := p.testBit) n (fun i hi => ⟨sl_bitL hi, rfl⟩)]
    · rw [sl_f e] at h
      exact low h
/-- the loop over the masks: the greatest size so far -/
def gt_O (R : Nat → Nat → Prop) (k : Nat) (f : Nat → Nat) (wi : Nat → Bool) (n q : Nat) : Prop := (∀ i, i < n → q.testBit i = true → wi i = true) ∧ gr_NB R k (sl_l f q.testBit n)
def gt_J (R : Nat → Nat → Prop) (k : Nat) (f : Nat → Nat) (wi : Nat → Bool) (n p M : Nat) : Prop := (∀ q, q < p → gt_O R k f wi n q → (sl_l f q.testBit n).length ≤ M) ∧ (M = 0 ∨ ∃ q, gt_O R k f wi n q ∧ (sl_l f q.testBit n).length = M)
theorem gt_J0 {R : Nat → Nat → Prop} {k : Nat} {f : Nat → Nat} {wi : Nat → Bool} {n : Nat} : gt_J R k f wi n 0 0 := ⟨fun q hq => absurd hq (by omega), Or.inl rfl⟩
theorem gt_Jt {R : Nat → Nat → Prop} {k : Nat} {f : Nat → Nat} {wi : Nat → Bool} {n p M : Nat} (h : gt_J R k f wi n p M) (o : gt_O R k f wi n p) (lt : M < (sl_l f p.testBit n).length) : gt_J R k f wi n (p + 1) (sl_l f p.testBit n).length := by
  refine ⟨fun q hq oq => ?_, Or.inr ⟨p, o, rfl⟩⟩
  by_cases e : q = p
  · rw [e]; exact Nat.le_refl _
  · have := h.1 q (by omega) oq
    omega
theorem gt_Jf {R : Nat → Nat → Prop} {k : Nat} {f : Nat → Nat} {wi : Nat → Bool} {n p M : Nat} (h : gt_J R k f wi n p M) (o : gt_O R k f wi n p → (sl_l f p.testBit n).length ≤ M) : gt_J R k f wi n (p + 1) M := by
  refine ⟨fun q hq oq => ?_, h.2⟩
  by_cases e : q = p
  · rw [e] at oq ⊢; exact o oq
  · exact h.1 q (by omega) oq
theorem gt_Je {R : Nat → Nat → Prop} {k : Nat} {f : Nat → Nat} {wi : Nat → Bool} {n M : Nat} (h : gt_J R k f wi n (2 ^ n) M) : gr_M R k (sl_l f wi n) M := by
  refine ⟨?_, ?_⟩
  · rcases h.2 with z | ⟨q, o, e⟩
    · refine ⟨[], List.nil_sublist _, z.symm, fun C hC _ => ?_⟩
      rw [List.sublist_nil.mp hC]
      exact Nat.zero_le _
    · exact ⟨_, sl_sub n o.1, e, o.2⟩
  · intro m hm
    obtain ⟨S, s1, s2, s3⟩ := hm
    obtain ⟨p, p1, p2, p3⟩ := sl_mask s1
    have := h.1 p p1 ⟨p2, by rw [p3]; exact s3⟩
    rw [p3, s2] at this
    exact this
theorem rn_inc {S : List Nat} (nd : S.Nodup) : gr_NB (fun a b => b < a) 1 S ↔ S.Pairwise (fun a b => a < b) := by
  constructor
  · intro h
    rw [List.pairwise_iff_forall_sublist]
    intro a b hab
    have ne : a ≠ b := by
      have := nd.sublist hab
      simpa using this
    apply Classical.byContradiction
    intro hn
    have := h [a, b] hab (by simp; omega)
    simp at this
  · intro h C hC cC
    exact tv_both (h.sublist hC) cC
theorem rn_dec {S : List Nat} (nd : S.Nodup) : gr_NB (fun a b => a < b) 1 S ↔ S.Pairwise (fun a b => b < a) := by
  constructor
  · intro h
    rw [List.pairwise_iff_forall_sublist]
    intro a b hab
    have ne : a ≠ b := by
      have := nd.sublist hab
      simpa using this
    apply Classical.byContradiction
    intro hn
    have := h [a, b] hab (by simp; omega)
    simp at this
  · intro h C hC cC
    exact tv_both cC (h.sublist hC)
theorem rn_falls {f : Nat → Nat} {b : Nat → Bool} {n M : Nat} (nd : (sl_l f b n).Nodup) (h : rn_M (fun a b => a < b) f b n M) : gr_M (fun a b => b < a) 1 (sl_l f b n) M := by
  refine ⟨?_, ?_⟩
  · obtain ⟨C, c1, c2, c3⟩ := h.2
    exact ⟨C, c1, c3, (rn_inc (nd.sublist c1)).mpr c2⟩
  · intro m hm
    obtain ⟨S, s1, s2, s3⟩ := hm
    rw [← s2]
    exact h.1 S s1 ((rn_inc (nd.sublist s1)).mp s3)
theorem rn_rises {f : Nat → Nat} {b : Nat → Bool} {n M : Nat} (nd : (sl_l f b n).Nodup) (h : rn_M (fun a b => b < a) f b n M) : gr_M (fun a b => a < b) 1 (sl_l f b n) M := by
  refine ⟨?_, ?_⟩
  · obtain ⟨C, c1, c2, c3⟩ := h.2
    exact ⟨C, c1, c3, (rn_dec (nd.sublist c1)).mpr c2⟩
  · intro m hm
    obtain ⟨S, s1, s2, s3⟩ := hm
    rw [← s2]
    exact h.1 S s1 ((rn_dec (nd.sublist s1)).mp s3)
end
end
section
section
theorem sm_split (g : Nat → Nat) (a : Nat) : ∀ b, sm_s g (a + b) = sm_s g a + sm_s (fun i => g (a + i)) b := by
  intro b
  induction b with
  | zero => rfl
  | succ b ih =>
    show sm_s g (a + b) + g (a + b) = _
    rw [ih, sm_s, Nat.add_assoc]
/-- rising choices of m of the places below e, all numbers below L -/
def lr_P (f : Nat → Nat) : Nat → Nat → Nat → Nat
  | 0, _, 0 => 1
  | 0, _, _ + 1 => 0
  | _ + 1, _, 0 => 1
  | e + 1, L, m + 1 => lr_P f e L (m + 1) + (if f e < L then lr_P f e (f e) m else 0)
theorem lr_P0 (f : Nat → Nat) (e L : Nat) : lr_P f e L 0 = 1 := by cases e <;> simp [lr_P]
theorem lr_Pz (f : Nat → Nat) (L m : Nat) : lr_P f 0 L (m + 1) = 0 := by simp [lr_P]
theorem lr_Ps (f : Nat → Nat) (e L m : Nat) : lr_P f (e + 1) L (m + 1) = lr_P f e L (m + 1) + (if f e < L then lr_P f e (f e) m else 0) := by rw [lr_P]
theorem lr_Pb (f : Nat → Nat) : ∀ e L m, lr_P f e L m ≤ 2 ^ e := by
  intro e
  induction e with
  | zero =>
    intro L m
    cases m with
    | zero => rw [lr_P0]; exact Nat.le_refl _
    | succ m => rw [lr_Pz]; exact Nat.zero_le _
  | succ e ih =>
    intro L m
    rw [Nat.pow_succ]
    cases m with
    | zero =>
      rw [lr_P0]
      have := Nat.two_pow_pos e
      omega
    | succ m =>
      rw [lr_Ps]
      have h1 := ih L (m + 1)
      have h2 := ih (f e) m
      split <;> omega
def lr_D (f : Nat → Nat) (l L lo wy : Nat) : Prop := wy = lr_P f l L lo ∧ 0 < wy ∧ ∀ m, lo < m → lr_P f l L m = 0
theorem lr_D0 (f : Nat → Nat) (L : Nat) : lr_D f 0 L 0 1 := by
  refine ⟨(lr_P0 f 0 L).symm, by omega, fun m hm => ?_⟩
  cases m with
  | zero => omega
  | succ m => exact lr_Pz f L m
theorem lr_Dn {f : Nat → Nat} {l L lo wy : Nat} (h : lr_D f l L lo wy) (hn : ¬ f l < L) : lr_D f (l + 1) L lo wy := by
  have e : ∀ m, lr_P f (l + 1) L m = lr_P f l L m := by
    intro m
    cases m with
    | zero => rw [lr_P0, lr_P0]
    | succ m => rw [lr_Ps, if_neg hn, Nat.add_zero]
  exact ⟨by rw [e]; exact h.1, h.2.1, fun m hm => by rw [e]; exact h.2.2 m hm⟩
theorem lr_Dg {f : Nat → Nat} {l L lo wy a b : Nat} (h : lr_D f l L lo wy) (hl : f l < L) (g : lr_D f l (f l) a b) (lt : lo < a + 1) : lr_D f (l + 1) L (a + 1) b := by
  refine ⟨?_, g.2.1, fun m hm => ?_⟩
  · rw [lr_Ps, if_pos hl, h.2.2 (a + 1) lt, ← g.1, Nat.zero_add]
  · cases m with
    | zero => omega
    | succ m => rw [lr_Ps, if_pos hl, h.2.2 (m + 1) (by omega), g.2.2 m (by omega)]
theorem lr_De {f : Nat → Nat} {l L lo wy a b : Nat} (h : lr_D f l L lo wy) (hl : f l < L) (g : lr_D f l (f l) a b) (eq : lo = a + 1) : lr_D f (l + 1) L lo (wy + b) := by
  rw [eq] at h ⊢
  refine ⟨?_, by have := h.2.1; omega, fun m hm => ?_⟩
  · rw [lr_Ps, if_pos hl, ← h.1, ← g.1]
  · cases m with
    | zero => omega
    | succ m => rw [lr_Ps, if_pos hl, h.2.2 (m + 1) (by omega), g.2.2 m (by omega)]
theorem lr_Dl {f : Nat → Nat} {l L lo wy a b : Nat} (h : lr_D f l L lo wy) (hl : f l < L) (g : lr_D f l (f l) a b) (lt : a + 1 < lo) : lr_D f (l + 1) L lo wy := by
  refine ⟨?_, h.2.1, fun m hm => ?_⟩
  · cases lo with
    | zero => omega
    | succ lo => rw [lr_Ps, if_pos hl, ← h.1, g.2.2 lo (by omega), Nat.add_zero]
  · cases m with
    | zero => omega
    | succ m => rw [lr_Ps, if_pos hl, h.2.2 (m + 1) (by omega), g.2.2 m (by omega)]
theorem lr_Du {f : Nat → Nat} {l L lo wy lo' wy' : Nat} (h : lr_D f l L lo wy) (g : lr_D f l L lo' wy') : wy = wy' := by
  have e : lo = lo' := by
    apply Classical.byContradiction
    intro hn
    by_cases lt : lo < lo'
    · have h1 := h.2.2 lo' lt
      have h2 := g.1
      have h3 := g.2.1
      omega
    · have h1 := g.2.2 lo (by omega)
      have h2 := h.1
      have h3 := h.2.1
      omega
  rw [h.1, g.1, e]
theorem lr_Db {f : Nat → Nat} {l L lo wy : Nat} (h : lr_D f l L lo wy) : wy ≤ 2 ^ l := by rw [h.1]; exact lr_Pb f l L lo
theorem lr_Pl (f : Nat → Nat) : ∀ e L m, e < m → lr_P f e L m = 0 := by
  intro e
  induction e with
  | zero =>
    intro L m hm
    cases m with
    | zero => omega
    | succ m => exact lr_Pz f L m
  | succ e ih =>
    intro L m hm
    cases m with
    | zero => omega
    | succ m =>
      rw [lr_Ps, ih L (m + 1) (by omega), ih (f e) m (by omega)]
      split <;> rfl
theorem lr_Dlo {f : Nat → Nat} {l L lo wy : Nat} (h : lr_D f l L lo wy) : lo ≤ l := by
  apply Classical.byContradiction
  intro hn
  have h1 := lr_Pl f l L lo (by omega)
  have h2 := h.1
  have h3 := h.2.1
  omega
def lr_r (f : Nat → Nat) (p : Nat → Bool) : Nat → Nat → Bool
  | 0, _ => true
  | e + 1, L => if p e = true then decide (f e < L) && lr_r f p e (f e) else lr_r f p e L
theorem lr_rc {f : Nat → Nat} {p p' : Nat → Bool} : ∀ e L, (∀ i, i < e → p i = p' i) → lr_r f p e L = lr_r f p' e L := by
  intro e
  induction e with
  | zero => intro L _; rfl
  | succ e ih =>
    intro L h
    rw [lr_r, lr_r, h e (by omega), ih L (fun i hi => h i (by omega)), ih (f e) (fun i hi => h i (by omega))]
theorem lr_ri {f : Nat → Nat} {p : Nat → Bool} : ∀ e L, lr_r f p e L = true ↔ (sl_l f p e).Pairwise (fun a b => a < b) ∧ ∀ x, x ∈ sl_l f p e → x < L := by
  intro e
  induction e with
  | zero => intro L; simp [lr_r, sl_l]
  | succ e ih =>
    intro L
    by_cases h : p e = true
    · rw [lr_r, if_pos h, sl_t h, Bool.and_eq_true, decide_eq_true_eq, ih (f e), List.pairwise_append]
      constructor
      · intro ⟨h1, h2, h3⟩
        refine ⟨⟨h2, by simp, fun a ha b hb => by rw [List.mem_singleton.mp hb]; exact h3 a ha⟩, fun x hx => ?_⟩
        rcases List.mem_append.mp hx with hx | hx
        · have := h3 x hx; omega
        · rw [List.mem_singleton.mp hx]; exact h1
      · intro ⟨⟨h1, _, h3⟩, h4⟩
        exact ⟨h4 (f e) (by simp), h1, fun x hx => h3 x hx (f e) (by simp)⟩
    · rw [lr_r, if_neg h, sl_f h, ih L]
def lr_q (f : Nat → Nat) (e L m p : Nat) : Nat := if lr_r f p.testBit e L = true ∧ (sl_l f p.testBit e).length = m then 1 else 0
theorem lr_cnt (f : Nat → Nat) : ∀ e L m, sm_s (lr_q f e L m) (2 ^ e) = lr_P f e L m := by
  intro e
  induction e with
  | zero =>
    intro L m
    show 0 + lr_q f 0 L m 0 = _
    cases m with
    | zero => rw [lr_P0]; rfl
    | succ m => rw [lr_Pz]; rfl
  | succ e ih =>
    intro L m
    rw [Nat.pow_succ, Nat.mul_two, sm_split]
    have h1 : sm_s (lr_q f (e + 1) L m) (2 ^ e) = lr_P f e L m := by
      rw [← ih L m]
      refine sm_congr _ (fun p hp => ?_)
      have z : ¬ p.testBit e = true := by rw [sl_bitZ hp]; decide
      unfold lr_q
      rw [lr_r, if_neg z, sl_f z]
    have h2 : ∀ p, p < 2 ^ e → lr_q f (e + 1) L m (2 ^ e + p) = if (f e < L ∧ lr_r f p.testBit e (f e) = true) ∧ (sl_l f p.testBit e).length + 1 = m then 1 else 0 := by
      intro p hp
      have o : (2 ^ e + p).testBit e = true := by rw [sl_bitO, sl_bitZ hp]; rfl
      unfold lr_q
      rw [lr_r, if_pos o, sl_t o, lr_rc (p := (2 ^ e + p).testBit) (p' := p.testBit) e (f e) (fun i hi => sl_bitL hi), sl_congr (f := f) (f' := f) (b := (2 ^ e + p).testBit) (b' := p.testBit) e (fun i hi => ⟨sl_bitL hi, rfl⟩), List.length_append, List.length_singleton]
      simp only [Bool.and_eq_true, decide_eq_true_eq]
    rw [h1, sm_congr (2 ^ e) h2]
    cases m with
    | zero =>
      rw [sm_zero (2 ^ e) (fun p _ => if_neg (by omega)), lr_P0, lr_P0]
    | succ m =>
      rw [lr_Ps]
      congr 1
      by_cases hl : f e < L
      · rw [if_pos hl, ← ih (f e) m]
        refine sm_congr _ (fun p _ => ?_)
        unfold lr_q
        simp only [hl, true_and, Nat.add_right_cancel_iff]
      · rw [if_neg hl]
        exact sm_zero _ (fun p _ => if_neg (fun h => hl h.1.1))
/-- the reference's loop over the masks -/
def lr_K (f : Nat → Nat) (n p M c : Nat) : Prop := (∀ q, q < p → lr_r f q.testBit n 100 = true → (sl_l f q.testBit n).length ≤ M) ∧ c = sm_s (lr_q f n 100 M) p ∧ (M = 0 ∨ 0 < c)
theorem lr_K0 (f : Nat → Nat) (n : Nat) : lr_K f n 0 0 0 := ⟨fun q hq => absurd hq (by omega), rfl, Or.inl rfl⟩
theorem lr_Kg {f : Nat → Nat} {n p M c : Nat} (h : lr_K f n p M c) (r : lr_r f p.testBit n 100 = true) (lt : M < (sl_l f p.testBit n).length) : lr_K f n (p + 1) (sl_l f p.testBit n).length 1 := by
  refine ⟨fun q hq hr => ?_, ?_, Or.inr (by omega)⟩
  · by_cases e : q = p
    · rw [e]; exact Nat.le_refl _
    · have := h.1 q (by omega) hr; omega
  · have z : sm_s (lr_q f n 100 (sl_l f p.testBit n).length) p = 0 := sm_zero p (fun q hq => if_neg (fun hh => by have := h.1 q hq hh.1; omega))
    rw [sm_s, z, lr_q, if_pos ⟨r, rfl⟩]
theorem lr_Ke {f : Nat → Nat} {n p M c : Nat} (h : lr_K f n p M c) (r : lr_r f p.testBit n 100 = true) (eq : (sl_l f p.testBit n).length = M) : lr_K f n (p + 1) M (c + 1) := by
  refine ⟨fun q hq hr => ?_, ?_, Or.inr (by omega)⟩
  · by_cases e : q = p
    · rw [e, eq]; exact Nat.le_refl _
    · exact h.1 q (by omega) hr
  · rw [sm_s, ← h.2.1]
    exact congrArg _ (if_pos ⟨r, eq⟩).symm
theorem lr_Kn {f : Nat → Nat} {n p M c : Nat} (h : lr_K f n p M c) (o : lr_r f p.testBit n 100 = true → (sl_l f p.testBit n).length < M) : lr_K f n (p + 1) M c := by
  refine ⟨fun q hq hr => ?_, ?_, h.2.2⟩
  · by_cases e : q = p
    · rw [e] at hr ⊢; have := o hr; omega
    · exact h.1 q (by omega) hr
  · rw [sm_s, ← h.2.1, lr_q, if_neg (fun hh => by have := o hh.1; omega), Nat.add_zero]
theorem lr_Kx {f : Nat → Nat} {n M c : Nat} (h : lr_K f n (2 ^ n) M c) : lr_D f n 100 M c := by
  have e := h.2.1
  rw [lr_cnt] at e
  refine ⟨e, ?_, fun m hm => ?_⟩
  · rcases h.2.2 with z | z
    · rw [e, z, lr_P0]; omega
    · exact z
  · rw [← lr_cnt]
    exact sm_zero _ (fun q hq => if_neg (fun hh => by have := h.1 q hq hh.1; omega))
theorem lr_iff {f : Nat → Nat} {p : Nat → Bool} {n : Nat} (inj : ∀ i j, i < n → j < n → f i = f j → i = j) (h100 : ∀ i, i < n → f i < 100) : gr_NB (fun a b => b < a) 1 (sl_l f p n) ↔ lr_r f p n 100 = true := by
  rw [rn_inc (sl_nd inj), lr_ri]
  refine ⟨fun h => ⟨h, fun x hx => ?_⟩, fun h => h.1⟩
  obtain ⟨i, h1, _, h3⟩ := sl_mem hx
  rw [h3]
  exact h100 i h1
end
end
section
section
def pr_p (f : Nat → Nat) : Nat → Nat
  | 0 => 1
  | n + 1 => pr_p f n * f n
theorem pr_congr {f g : Nat → Nat} : ∀ n, (∀ i, i < n → f i = g i) → pr_p f n = pr_p g n := by
  intro n
  induction n with
  | zero => intro _; rfl
  | succ n ih => intro h; rw [pr_p, pr_p, ih (fun i hi => h i (by omega)), h n (by omega)]
def hk_h (mu : Nat → Nat) (i j : Nat) : Nat := 1 + sm_s (fun c => if j < c ∧ c < mu i then 1 else 0) 10 + sm_s (fun r => if i < r ∧ j < mu r then 1 else 0) 10
def hk_p (mu : Nat → Nat) : Nat := pr_p (fun i => pr_p (fun j => if j < mu i then hk_h mu i j else 1) 10) 10
def hk_n : Nat → Nat
  | 0 => 1
  | n + 1 => hk_n n * (n + 1)
def hk_F (mu : Nat → Nat) : Nat := hk_n (sm_s mu 10) / hk_p mu
theorem hk_hC {mu nu : Nat → Nat} (h : ∀ i, i < 10 → mu i = nu i) {i : Nat} (hi : i < 10) (j : Nat) : hk_h mu i j = hk_h nu i j := by
  unfold hk_h
  rw [h i hi, sm_congr (f := fun r => if i < r ∧ j < mu r then 1 else 0) (g := fun r => if i < r ∧ j < nu r then 1 else 0) 10 (fun r hr => by rw [h r hr])]
theorem hk_pC {mu nu : Nat → Nat} (h : ∀ i, i < 10 → mu i = nu i) : hk_p mu = hk_p nu := by
  unfold hk_p
  refine pr_congr 10 (fun i hi => pr_congr 10 (fun j _ => ?_))
  rw [h i hi, hk_hC h hi j]
theorem hk_FC {mu nu : Nat → Nat} (h : ∀ i, i < 10 → mu i = nu i) : hk_F mu = hk_F nu := by
  unfold hk_F
  rw [sm_congr 10 h, hk_pC h]
/-- all falling lists of d numbers, the first at most b, with a sum of at most r -/
def hk_g : Nat → Nat → Nat → List (List Nat)
  | 0, _, _ => [[]]
  | d + 1, b, r => (List.range (b + 1)).flatMap (fun a => if a ≤ r then (hk_g d a (r - a)).map (fun l => a :: l) else [])
theorem hk_gm : ∀ (d b r : Nat) (mu : Nat → Nat), (∀ k, k + 1 < d → mu (k + 1) ≤ mu k) → (0 < d → mu 0 ≤ b) → sm_s mu d ≤ r → ((List.range d).map mu) ∈ hk_g d b r := by
  intro d
  induction d with
  | zero => intro b r mu _ _ _; simp [hk_g]
  | succ d ih =>
    intro b r mu h1 h2 h3
    have e : sm_s mu (d + 1) = mu 0 + sm_s (fun i => mu (i + 1)) d := by
      have := sm_split mu 1 d
      rw [Nat.add_comm 1 d] at this
      rw [this]
      have e2 : sm_s mu 1 = mu 0 := by simp [sm_s]
      rw [e2]
      congr 1
      exact sm_congr d (fun i _ => by rw [Nat.add_comm])
    have e3 : (List.range (d + 1)).map mu = mu 0 :: (List.range d).map (fun i => mu (i + 1)) := by
      rw [List.range_succ_eq_map, List.map_cons, List.map_map]
      rfl
    rw [e3, hk_g, List.mem_flatMap]
    refine ⟨mu 0, List.mem_range.mpr (by have := h2 (by omega); omega), ?_⟩
    rw [if_pos (by omega), List.mem_map]
    refine ⟨_, ih (mu 0) (r - mu 0) (fun i => mu (i + 1)) (fun k hk => h1 (k + 1) (by omega)) (fun hd => h1 0 (by omega)) (by omega), rfl⟩
def hk_a (l : List Nat) (i : Nat) : Nat := l.getD i 0
def hk_m (mu : Nat → Nat) (k : Nat) : Nat → Nat := fun i => if i = k then mu i - 1 else mu i
def hk_R (mu : Nat → Nat) : Nat := sm_s (fun k => if mu (k + 1) < mu k then hk_F (hk_m mu k) else 0) 10
def hk_ck (l : List Nat) : Bool := decide (0 < hk_F (hk_a l)) && decide (hk_F (hk_a l) < 1000000) && decide (0 < hk_p (hk_a l)) && decide (hk_p (hk_a l) < 10000000) && (if sm_s (hk_a l) 10 = 0 then decide (hk_F (hk_a l) = 1) else decide (hk_F (hk_a l) = hk_R (hk_a l)))
theorem hk_all : (hk_g 10 10 10).all hk_ck = true := by decide +kernel
end
end
section
section
def hk_fall (mu : Nat → Nat) : Prop := ∀ k, k < 10 → mu (k + 1) ≤ mu k
theorem hk_tab {mu : Nat → Nat} (h : hk_fall mu) (hs : sm_s mu 10 ≤ 10) : hk_ck ((List.range 10).map mu) = true := by
  have h0 : mu 0 ≤ 10 := by
    have e : sm_s mu 10 = mu 0 + sm_s (fun i => mu (1 + i)) 9 := by
      have := sm_split mu 1 9
      have e2 : sm_s mu 1 = mu 0 := by simp [sm_s]
      rw [e2] at this
      exact this
    omega
  exact List.all_eq_true.mp hk_all _ (hk_gm 10 10 10 mu (fun k hk => h k (by omega)) (fun _ => h0) hs)
theorem hk_aeq (mu : Nat → Nat) {i : Nat} (hi : i < 10) : hk_a ((List.range 10).map mu) i = mu i := by
  unfold hk_a
  rw [List.getD_eq_getElem?_getD, List.getElem?_map, List.getElem?_range hi]
  rfl
theorem hk_a10 (mu : Nat → Nat) : hk_a ((List.range 10).map mu) 10 = 0 := by
  unfold hk_a
  rw [List.getD_eq_getElem?_getD, List.getElem?_eq_none (by simp)]
  rfl
theorem hk_facts {mu : Nat → Nat} (h : hk_fall mu) (hs : sm_s mu 10 ≤ 10) : 0 < hk_F mu ∧ hk_F mu < 1000000 ∧ 0 < hk_p mu ∧ hk_p mu < 10000000 := by
  have t := hk_tab h hs
  unfold hk_ck at t
  simp only [Bool.and_eq_true, decide_eq_true_eq] at t
  have eF : hk_F (hk_a ((List.range 10).map mu)) = hk_F mu := hk_FC (fun i hi => hk_aeq mu hi)
  have eP : hk_p (hk_a ((List.range 10).map mu)) = hk_p mu := hk_pC (fun i hi => hk_aeq mu hi)
  rw [eF, eP] at t
  exact ⟨t.1.1.1.1, t.1.1.1.2, t.1.1.2, t.1.2⟩
theorem hk_rec {mu : Nat → Nat} (h : hk_fall mu) (h10 : mu 10 = 0) (hs : sm_s mu 10 ≤ 10) : (sm_s mu 10 = 0 → hk_F mu = 1) ∧ (sm_s mu 10 ≠ 0 → hk_F mu = hk_R mu) := by
  have t := hk_tab h hs
  unfold hk_ck at t
  simp only [Bool.and_eq_true] at t
  have t := t.2
  have eF : hk_F (hk_a ((List.range 10).map mu)) = hk_F mu := hk_FC (fun i hi => hk_aeq mu hi)
  have eS : sm_s (hk_a ((List.range 10).map mu)) 10 = sm_s mu 10 := sm_congr 10 (fun i hi => hk_aeq mu hi)
  have eR : hk_R (hk_a ((List.range 10).map mu)) = hk_R mu := by
    unfold hk_R
    refine sm_congr 10 (fun k hk => ?_)
    have e1 : hk_a ((List.range 10).map mu) (k + 1) = mu (k + 1) := by
      by_cases e : k = 9
      · rw [e]; rw [hk_a10 mu, h10]
      · exact hk_aeq mu (by omega)
    rw [e1, hk_aeq mu hk]
    rw [hk_FC (mu := hk_m (hk_a ((List.range 10).map mu)) k) (nu := hk_m mu k) (fun i hi => by unfold hk_m; rw [hk_aeq mu hi])]
  rw [eF, eS, eR] at t
  constructor
  · intro e
    rw [if_pos e] at t
    simpa using t
  · intro e
    rw [if_neg e] at t
    simpa using t
def mx_w (s : Nat → Nat) : Nat → Nat
  | 0 => 1
  | k + 1 => mx_w s k * (s k + 1)
def mx_d (s : Nat → Nat) (x k : Nat) : Nat := x / mx_w s k % (s k + 1)
theorem mx_pos (s : Nat → Nat) : ∀ k, 0 < mx_w s k := by
  intro k
  induction k with
  | zero => exact Nat.one_pos
  | succ k ih => exact Nat.mul_pos ih (by omega)
theorem mx_dvd (s : Nat → Nat) (j : Nat) : ∀ e, ∃ M, 0 < M ∧ mx_w s (j + 1 + e) = mx_w s j * ((s j + 1) * M) := by
  intro e
  induction e with
  | zero => exact ⟨1, by omega, by rw [Nat.mul_one]; rfl⟩
  | succ e ih =>
    obtain ⟨M, h0, h⟩ := ih
    refine ⟨M * (s (j + 1 + e) + 1), Nat.mul_pos h0 (by omega), ?_⟩
    show mx_w s (j + 1 + e) * (s (j + 1 + e) + 1) = _
    rw [h, Nat.mul_assoc, Nat.mul_assoc]
theorem mx_dvdL (s : Nat → Nat) {j k : Nat} (h : j < k) : ∃ M, 0 < M ∧ mx_w s k = mx_w s j * ((s j + 1) * M) := by
  have := mx_dvd s j (k - (j + 1))
  rwa [show j + 1 + (k - (j + 1)) = k by omega] at this
theorem mx_le (s : Nat → Nat) (x k : Nat) : mx_d s x k ≤ s k := Nat.le_of_lt_succ (Nat.mod_lt _ (by omega))
theorem mx_c1 {q s : Nat} (h : q % (s + 1) < s) : (q + 1) % (s + 1) = q % (s + 1) + 1 ∧ (q + 1) / (s + 1) = q / (s + 1) := by
  have e := Nat.div_add_mod q (s + 1)
  have e2 : q + 1 = (s + 1) * (q / (s + 1)) + (q % (s + 1) + 1) := by omega
  constructor
  · rw [e2, Nat.mul_add_mod, Nat.mod_eq_of_lt (by omega)]
  · rw [e2, Nat.mul_add_div (by omega), Nat.div_eq_of_lt (show q % (s + 1) + 1 < s + 1 by omega), Nat.add_zero]
theorem mx_up {s : Nat → Nat} {x k : Nat} (h : mx_d s x k < s k) (j : Nat) : mx_d s (x + mx_w s k) j = mx_d s x j + (if j = k then 1 else 0) := by
  have hw := mx_pos s k
  by_cases e : j = k
  · rw [if_pos e, e]
    unfold mx_d at h ⊢
    rw [Nat.add_div_right _ hw]
    exact (mx_c1 h).1
  · rw [if_neg e, Nat.add_zero]
    by_cases lt : j < k
    · obtain ⟨M, _, hM⟩ := mx_dvdL s lt
      unfold mx_d
      rw [hM, Nat.add_mul_div_left _ _ (mx_pos s j), Nat.add_mul_mod_self_left]
    · obtain ⟨M, _, hM⟩ := mx_dvdL s (by omega : k < j)
      unfold mx_d at h ⊢
      rw [hM, ← Nat.div_div_eq_div_mul, ← Nat.div_div_eq_div_mul, Nat.add_div_right _ hw, ← Nat.div_div_eq_div_mul, ← Nat.div_div_eq_div_mul, (mx_c1 h).2]
theorem mx_dn {s : Nat → Nat} {x k : Nat} (h : 0 < mx_d s x k) : mx_w s k ≤ x ∧ mx_d s (x - mx_w s k) k < s k ∧ ∀ j, mx_d s x j = mx_d s (x - mx_w s k) j + (if j = k then 1 else 0) := by
  have hw := mx_pos s k
  have hx : mx_w s k ≤ x := by
    apply Classical.byContradiction
    intro hn
    unfold mx_d at h
    rw [Nat.div_eq_of_lt (by omega)] at h
    simp at h
  have e : x - mx_w s k + mx_w s k = x := Nat.sub_add_cancel hx
  have h2 : mx_d s (x - mx_w s k) k < s k := by
    have e1 : x / mx_w s k = (x - mx_w s k) / mx_w s k + 1 := by
      have := Nat.add_div_right (x - mx_w s k) hw
      rw [e] at this
      exact this
    unfold mx_d at h ⊢
    rw [e1] at h
    apply Classical.byContradiction
    intro hn
    have h3 : (x - mx_w s k) / mx_w s k % (s k + 1) = s k := by
      have := Nat.mod_lt ((x - mx_w s k) / mx_w s k) (by omega : 0 < s k + 1)
      omega
    have e2 := Nat.div_add_mod ((x - mx_w s k) / mx_w s k) (s k + 1)
    rw [h3] at e2
    rw [← e2, Nat.add_assoc, Nat.mul_add_mod, Nat.mod_self] at h
    omega
  refine ⟨hx, h2, fun j => ?_⟩
  have h4 := mx_up h2 j
  rw [e] at h4
  exact h4
theorem mx_in {s : Nat → Nat} {x k K : Nat} (hk : k < K) (hx : x < mx_w s K) (h : mx_d s x k < s k) : x + mx_w s k < mx_w s K := by
  obtain ⟨M, h0, hM⟩ := mx_dvdL s hk
  have hw := mx_pos s k
  unfold mx_d at h
  rw [hM] at hx ⊢
  have hq : x / mx_w s k < (s k + 1) * M := (Nat.div_lt_iff_lt_mul hw).mpr (by rw [Nat.mul_comm]; exact hx)
  have e := Nat.div_add_mod (x / mx_w s k) (s k + 1)
  have ha : x / mx_w s k / (s k + 1) < M := (Nat.div_lt_iff_lt_mul (by omega)).mpr (by rw [Nat.mul_comm]; exact hq)
  have h1 : (s k + 1) * (x / mx_w s k / (s k + 1) + 1) ≤ (s k + 1) * M := Nat.mul_le_mul_left _ ha
  rw [Nat.mul_add, Nat.mul_one] at h1
  have h2 : x / mx_w s k + 2 ≤ (s k + 1) * M := by omega
  have h3 : mx_w s k * (x / mx_w s k + 2) ≤ mx_w s k * ((s k + 1) * M) := Nat.mul_le_mul_left _ h2
  rw [Nat.mul_add] at h3
  have h4 := Nat.div_add_mod x (mx_w s k)
  have h5 := Nat.mod_lt x hw
  omega
theorem mx_last {s : Nat → Nat} {k K : Nat} (hk : k < K) : mx_d s (mx_w s K - 1) k = s k := by
  obtain ⟨M, h0, hM⟩ := mx_dvdL s hk
  have hw := mx_pos s k
  unfold mx_d
  rw [hM]
  obtain ⟨M', rfl⟩ : ∃ M', M = M' + 1 := ⟨M - 1, by omega⟩
  have e1 : mx_w s k * ((s k + 1) * (M' + 1)) - 1 = mx_w s k * ((s k + 1) * M' + s k) + (mx_w s k - 1) := by
    have : (s k + 1) * (M' + 1) = ((s k + 1) * M' + s k) + 1 := by rw [Nat.mul_add, Nat.mul_one]; omega
    rw [this, Nat.mul_add _ _ 1, Nat.mul_one]
    omega
  rw [e1, Nat.mul_add_div hw, Nat.div_eq_of_lt (by omega), Nat.add_zero, Nat.mul_add_mod, Nat.mod_eq_of_lt (by omega)]
theorem mx_z {s : Nat → Nat} {x : Nat} : ∀ K, (∀ k, k < K → mx_d s x k = 0) → x % mx_w s K = 0 := by
  intro K
  induction K with
  | zero => intro _; exact Nat.mod_one x
  | succ K ih =>
    intro h
    show x % (mx_w s K * (s K + 1)) = 0
    rw [Nat.mod_mul, ih (fun k hk => h k (by omega))]
    have := h K (by omega)
    unfold mx_d at this
    rw [this]
    rfl
theorem mx_two (s : Nat → Nat) : ∀ k, mx_w s k ≤ 2 ^ sm_s s k := by
  intro k
  induction k with
  | zero => exact Nat.le_refl _
  | succ k ih =>
    show mx_w s k * (s k + 1) ≤ 2 ^ (sm_s s k + s k)
    rw [Nat.pow_add]
    exact Nat.mul_le_mul ih (Nat.lt_two_pow_self)
end
end
section
section
theorem sm_pick (k v : Nat) : ∀ n, sm_s (fun q => if k = q then v else 0) n = if k < n then v else 0 := by
  intro n
  induction n with
  | zero => rfl
  | succ n ih =>
    simp only [sm_s, ih]
    by_cases h : k < n
    · have h1 : ¬ k = n := by omega
      have h2 : k < n + 1 := by omega
      simp [h, h1, h2]
    · by_cases h1 : k = n
      · simp [h1]
      · have h2 : ¬ k < n + 1 := by omega
        simp [h, h1, h2]
theorem sm_s0 {f : Nat → Nat} : ∀ n, sm_s f n = 0 → ∀ i, i < n → f i = 0 := by
  intro n
  induction n with
  | zero => intro _ i hi; omega
  | succ n ih =>
    intro h i hi
    rw [sm_s] at h
    by_cases e : i = n
    · rw [e]; omega
    · exact ih (by omega) i (by omega)
def mx_fb (s : Nat → Nat) (x : Nat) : Bool := (List.range 10).all (fun k => decide (mx_d s x (k + 1) ≤ mx_d s x k))
theorem mx_fbI {s : Nat → Nat} {x : Nat} : mx_fb s x = true ↔ hk_fall (mx_d s x) := by
  unfold mx_fb hk_fall
  rw [List.all_eq_true]
  constructor
  · intro h k hk
    simpa using h k (List.mem_range.mpr hk)
  · intro h k hk
    simpa using h k (List.mem_range.mp hk)
/-- ways to fill up to the shape that x stands for -/
def mx_G (s : Nat → Nat) (x : Nat) : Nat := if mx_fb s x = true then hk_F (mx_d s x) else 0
def mx_m (s : Nat → Nat) (y q : Nat) : Bool := decide (mx_d s y q < s q) && (decide (q = 0) || decide (mx_d s y q < mx_d s y (q - 1)))
theorem mx_mI {s : Nat → Nat} {y q : Nat} : mx_m s y q = true ↔ mx_d s y q < s q ∧ (q = 0 ∨ mx_d s y q < mx_d s y (q - 1)) := by
  unfold mx_m
  rw [Bool.and_eq_true, Bool.or_eq_true, decide_eq_true_eq, decide_eq_true_eq, decide_eq_true_eq]
def mx_t (s : Nat → Nat) (y q : Nat) : Nat := if mx_w s q ≤ y ∧ mx_m s (y - mx_w s q) q = true then mx_G s (y - mx_w s q) else 0
theorem mx_term {s : Nat → Nat} {x : Nat} (h10 : s 10 = 0) (P : hk_fall (mx_d s x)) {q : Nat} (hq : q < 11) : mx_t s x q = if mx_d s x (q + 1) < mx_d s x q then hk_F (hk_m (mx_d s x) q) else 0 := by
  have hd10 : mx_d s x 10 = 0 := by have := mx_le s x 10; omega
  by_cases z : 0 < mx_d s x q
  · obtain ⟨h1, h2, h3⟩ := mx_dn z
    have q10 : q < 10 := by
      apply Classical.byContradiction
      intro hn
      have : q = 10 := by omega
      rw [this] at z
      omega
    have hq0 := h3 q
    rw [if_pos rfl] at hq0
    have hm : mx_m s (x - mx_w s q) q = true := by
      rw [mx_mI]
      refine ⟨h2, ?_⟩
      by_cases e : q = 0
      · exact Or.inl e
      · right
        have a := h3 (q - 1)
        rw [if_neg (by omega)] at a
        have b := P (q - 1) (by omega)
        rw [show q - 1 + 1 = q by omega] at b
        omega
    rw [mx_t, if_pos ⟨h1, hm⟩]
    have hn1 := h3 (q + 1)
    rw [if_neg (by omega)] at hn1
    by_cases c : mx_d s x (q + 1) < mx_d s x q
    · rw [if_pos c, mx_G, if_pos]
      · refine hk_FC (fun i _ => ?_)
        unfold hk_m
        have a := h3 i
        by_cases e : i = q
        · rw [if_pos e] at a ⊢; omega
        · rw [if_neg e] at a ⊢; omega
      · rw [mx_fbI]
        intro k hk
        have a := h3 k
        have b := h3 (k + 1)
        have p := P k hk
        by_cases e : k = q
        · rw [e] at a b p ⊢
          omega
        · rw [if_neg e] at a
          omega
    · rw [if_neg c, mx_G, if_neg]
      intro hf
      have hf := mx_fbI.mp hf q q10
      omega
  · rw [if_neg (by omega), mx_t, if_neg]
    intro ⟨h1, h2⟩
    have h2 := (mx_mI.mp h2).1
    have u := mx_up h2 q
    rw [Nat.sub_add_cancel h1, if_pos rfl] at u
    omega
theorem mx_rec {s : Nat → Nat} {x : Nat} (h10 : s 10 = 0) (hs : sm_s s 10 ≤ 10) (hx : x < mx_w s 11) : mx_G s x = (if x = 0 then 1 else 0) + sm_s (mx_t s x) 11 := by
  have hd10 : mx_d s x 10 = 0 := by have := mx_le s x 10; omega
  have hsum : sm_s (mx_d s x) 10 ≤ 10 := Nat.le_trans (sm_le 10 (fun i _ => mx_le s x i)) hs
  by_cases P : hk_fall (mx_d s x)
  · have eT : sm_s (mx_t s x) 11 = hk_R (mx_d s x) := by
      rw [sm_congr 11 (fun q hq => mx_term h10 P hq), sm_s, if_neg (by omega)]
      rfl
    rw [eT, mx_G, if_pos (mx_fbI.mpr P)]
    have r := hk_rec P hd10 hsum
    by_cases z : sm_s (mx_d s x) 10 = 0
    · have z0 := sm_s0 10 z
      have x0 : x = 0 := by
        have h := mx_z (s := s) (x := x) 11 (fun k hk => by
          by_cases e : k = 10
          · rw [e]; exact hd10
          · exact z0 k (by omega))
        rwa [Nat.mod_eq_of_lt hx] at h
      rw [r.1 z, if_pos x0]
      have : hk_R (mx_d s x) = 0 := sm_zero 10 (fun k hk => if_neg (by have := z0 k hk; omega))
      rw [this]
    · have x0 : ¬ x = 0 := by
        intro e
        apply z
        refine sm_zero 10 (fun k _ => ?_)
        rw [e]
        unfold mx_d
        rw [Nat.zero_div, Nat.zero_mod]
      rw [r.2 z, if_neg x0, Nat.zero_add]
  · rw [mx_G, if_neg (fun h => P (mx_fbI.mp h)), if_neg, Nat.zero_add]
    · refine (sm_zero 11 (fun q hq => ?_)).symm
      unfold mx_t
      by_cases c : mx_w s q ≤ x ∧ mx_m s (x - mx_w s q) q = true
      · rw [if_pos c, mx_G, if_neg]
        intro hf
        apply P
        have hf := mx_fbI.mp hf
        have hm := mx_mI.mp c.2
        intro k hk
        have u1 := mx_up hm.1 k
        have u2 := mx_up hm.1 (k + 1)
        rw [Nat.sub_add_cancel c.1] at u1 u2
        have p := hf k hk
        by_cases e : k + 1 = q
        · subst e
          rw [if_pos rfl] at u2
          rcases hm.2 with z | z
          · omega
          · rw [Nat.add_sub_cancel] at z
            omega
        · rw [if_neg e] at u2
          omega
      · exact if_neg c
    · intro e
      apply P
      intro k _
      rw [e]
      unfold mx_d
      rw [Nat.zero_div, Nat.zero_mod]
      exact Nat.zero_le _
/-- what ways[y] holds when the loops stand at x and k -/
def mx_A (s : Nat → Nat) (x k y : Nat) : Nat := (if y = 0 then 1 else 0) + sm_s (fun q => if y < x + mx_w s q ∨ (y = x + mx_w s q ∧ q < k) then mx_t s y q else 0) 11
theorem mx_Ag {s : Nat → Nat} (h10 : s 10 = 0) (hs : sm_s s 10 ≤ 10) {x k y : Nat} (hy : y ≤ x) (hx : y < mx_w s 11) : mx_A s x k y = mx_G s y := by
  rw [mx_rec h10 hs hx, mx_A]
  congr 1
  exact sm_congr 11 (fun q _ => if_pos (Or.inl (by have := mx_pos s q; omega)))
theorem mx_A0 (s : Nat → Nat) (y : Nat) : mx_A s 0 0 y = if y = 0 then 1 else 0 := by
  rw [mx_A, sm_zero, Nat.add_zero]
  intro q _
  by_cases c : y < 0 + mx_w s q ∨ (y = 0 + mx_w s q ∧ q < 0)
  · rw [if_pos c, mx_t, if_neg (by omega)]
  · exact if_neg c
theorem mx_An (s : Nat → Nat) (x y : Nat) : mx_A s x 11 y = mx_A s (x + 1) 0 y := by
  unfold mx_A
  congr 1
  refine sm_congr 11 (fun q hq => ?_)
  by_cases c : y < x + mx_w s q ∨ (y = x + mx_w s q ∧ q < 11)
  · rw [if_pos c, if_pos (by omega)]
  · rw [if_neg c, if_neg (by omega)]
theorem mx_Ak (s : Nat → Nat) {x k : Nat} (hk : k < 11) (y : Nat) : mx_A s x (k + 1) y = mx_A s x k y + (if y = x + mx_w s k then mx_t s y k else 0) := by
  unfold mx_A
  have e : sm_s (fun q => if k = q then (if y = x + mx_w s k then mx_t s y k else 0) else 0) 11 = if y = x + mx_w s k then mx_t s y k else 0 := by
    rw [sm_pick, if_pos hk]
  rw [← e, Nat.add_assoc, ← sm_add]
  congr 1
  refine sm_congr 11 (fun q _ => ?_)
  by_cases ek : k = q
  · rw [← ek, if_pos rfl]
    by_cases c : y < x + mx_w s k
    · rw [if_pos (Or.inl c), if_pos (Or.inl c), if_neg (by omega), Nat.add_zero]
    · by_cases c2 : y = x + mx_w s k
      · rw [if_pos (by omega), if_neg (by omega), if_pos c2, Nat.zero_add]
      · rw [if_neg (by omega), if_neg (by omega), if_neg c2]
  · rw [if_neg ek]
    by_cases c : y < x + mx_w s q ∨ (y = x + mx_w s q ∧ q < k)
    · rw [if_pos c, if_pos (by omega), Nat.add_zero]
    · rw [if_neg c, if_neg (by omega)]
theorem mx_tx (s : Nat → Nat) (x k : Nat) : mx_t s (x + mx_w s k) k = if mx_m s x k = true then mx_G s x else 0 := by
  unfold mx_t
  rw [Nat.add_sub_cancel]
  by_cases c : mx_m s x k = true
  · rw [if_pos ⟨by omega, c⟩, if_pos c]
  · rw [if_neg (fun h => c h.2), if_neg c]
theorem mx_Gend {s : Nat → Nat} (hf : hk_fall s) : mx_G s (mx_w s 11 - 1) = hk_F s := by
  have e : ∀ k, k < 11 → mx_d s (mx_w s 11 - 1) k = s k := fun k hk => mx_last hk
  rw [mx_G, if_pos]
  · exact hk_FC (fun i hi => e i (by omega))
  · rw [mx_fbI]
    intro k hk
    rw [e k (by omega), e (k + 1) (by omega)]
    exact hf k hk
theorem mx_Gb {s : Nat → Nat} {x : Nat} (hs : sm_s s 10 ≤ 10) : mx_G s x < 1000000 := by
  unfold mx_G
  by_cases c : mx_fb s x = true
  · rw [if_pos c]
    exact (hk_facts (mx_fbI.mp c) (Nat.le_trans (sm_le 10 (fun i _ => mx_le s x i)) hs)).2.1
  · rw [if_neg c]; omega
/-- a closed row: filled just below its length -/
theorem sm_clI {f : Nat → Nat} (h01 : ∀ j, f j ≤ 1) (cl : ∀ j, j + 1 < 10 → f (j + 1) = 1 → f j = 1) {j : Nat} (hj : j < 10) : f j = if j < sm_s f 10 then 1 else 0 := by
  by_cases e : f j = 1
  · have al : ∀ d, d ≤ j → f (j - d) = 1 := by
      intro d
      induction d with
      | zero => intro _; exact e
      | succ d ih =>
        intro hd
        have h1 := ih (by omega)
        refine cl (j - (d + 1)) (by omega) ?_
        rwa [show j - (d + 1) + 1 = j - d by omega]
    have h1 : sm_s f (j + 1) = j + 1 := by
      rw [sm_congr (g := fun _ => 1) (j + 1) (fun i hi => by
        have := al (j - i) (by omega)
        rwa [show j - (j - i) = i by omega] at this), sm_one]
    have h2 := sm_split f (j + 1) (10 - (j + 1))
    rw [show j + 1 + (10 - (j + 1)) = 10 by omega] at h2
    rw [e, if_pos (by omega)]
  · have z : f j = 0 := by have := h01 j; omega
    have al : ∀ d, j + d < 10 → f (j + d) = 0 := by
      intro d
      induction d with
      | zero => intro _; exact z
      | succ d ih =>
        intro hd
        have h1 := ih (by omega)
        have h2 := cl (j + d) (by omega)
        have h3 := h01 (j + d + 1)
        show f (j + d + 1) = 0
        by_cases e2 : f (j + d + 1) = 1
        · have := h2 e2; omega
        · omega
    have h1 := sm_tail (f := f) (a := j) (10 - j) (fun i a b => by
      have := al (i - j) (by omega)
      rwa [show j + (i - j) = i by omega] at this)
    rw [show j + (10 - j) = 10 by omega] at h1
    have h2 : sm_s f j ≤ j := by
      have := sm_le (f := f) (g := fun _ => 1) j (fun i _ => h01 i)
      rwa [sm_one] at this
    rw [z, if_neg (by omega)]
end
end
section
section
def iv_g (f : Nat → Nat) (i j : Nat) : Nat := if f j < f i then 1 else 0
theorem iv_eq (f : Nat → Nat) (n : Nat) : sm_s (fun i => sm_s (fun j => if i < j then iv_g f i j else 0) n) n = sm_s (fun i => sm_s (fun j => iv_g f j i) i) n := by
  rw [sm_swap]
  refine sm_congr n (fun i hi => ?_)
  have h := sm_cut (fun j => iv_g f j i) i n
  rw [Nat.min_eq_left (by omega)] at h
  exact h
theorem iv_b (f : Nat → Nat) (i n : Nat) : sm_s (fun j => iv_g f j i) n ≤ n := by
  have := sm_le (f := fun j => iv_g f j i) (g := fun _ => 1) n (fun j _ => by unfold iv_g; split <;> omega)
  rwa [sm_one] at this
end
end
section
section
/-- the first n places of the row hold different numbers below 100 -/
def rl_Ok (n : Nat) (a : Nat → Int32) : Prop := n ≤ 10 ∧ (∀ i, i < n → ∃ v : Nat, v < 100 ∧ a i = nI v) ∧ (∀ i j, i < n → j < n → a i = a j → i = j)
/-- same length, same row; all else is free -/
def i_Rel (_ : Nat) (u : SX) (v : SY) : Prop := ∃ (n : Nat) (a t lb wb be sh we wy : Nat → Int32), u = (nI n, a, t, lb, wb) ∧ v = (nI n, a, be, sh, we, wy) ∧ rl_Ok n a
theorem i_up {k : Nat} {u : SX} {v : SY} (h : i_Rel k u v) : i_Rel (k + 3) u v := h
def rl_f (a : Nat → Int32) (i : Nat) : Nat := (a i).toNatClampNeg
theorem rl_val {n : Nat} {a : Nat → Int32} (h : rl_Ok n a) {i : Nat} (hi : i < n) : a i = nI (rl_f a i) ∧ rl_f a i < 100 := by
  obtain ⟨v, hv, e⟩ := h.2.1 i hi
  unfold rl_f
  rw [e, nI_clamp (by omega)]
  exact ⟨rfl, hv⟩
theorem rl_inj {n : Nat} {a : Nat → Int32} (h : rl_Ok n a) : ∀ i j, i < n → j < n → rl_f a i = rl_f a j → i = j := by
  intro i j hi hj e
  refine h.2.2 i j hi hj ?_
  rw [(rl_val h hi).1, (rl_val h hj).1, e]
theorem rl_lt {n : Nat} {a : Nat → Int32} (h : rl_Ok n a) {i j : Nat} (hi : i < n) (hj : j < n) : a i < a j ↔ rl_f a i < rl_f a j := by
  have h1 := rl_val h hi
  have h2 := rl_val h hj
  rw [h1.1, h2.1, nI_ltI (by omega) (by omega)]
def rl_sw (a : Nat → Int32) (i j : Nat) : Nat → Int32 := upd (upd a i (a j)) j (a i)
theorem rl_swq (a : Nat → Int32) (i j q : Nat) : rl_sw a i j q = a (if q = j then i else if q = i then j else q) := by
  unfold rl_sw upd
  by_cases h1 : q = j
  · simp [h1]
  · by_cases h2 : q = i
    · subst h2
      simp [h1]
    · simp [h1, h2]
theorem rl_swOk {n : Nat} {a : Nat → Int32} (h : rl_Ok n a) {i j : Nat} (hi : i < n) (hj : j < n) : rl_Ok n (rl_sw a i j) := by
  refine ⟨h.1, fun q hq => ?_, fun q r hq hr e => ?_⟩
  · rw [rl_swq]
    refine h.2.1 _ ?_
    split
    · exact hi
    · split
      · exact hj
      · exact hq
  · rw [rl_swq, rl_swq] at e
    have e2 := h.2.2 _ _ (by split; exact hi; split; exact hj; exact hq) (by split; exact hi; split; exact hj; exact hr) e
    by_cases q1 : q = j
    · by_cases r1 : r = j
      · omega
      · rw [if_pos q1, if_neg r1] at e2
        by_cases r2 : r = i
        · rw [if_pos r2] at e2; omega
        · rw [if_neg r2] at e2; omega
    · rw [if_neg q1] at e2
      by_cases q2 : q = i
      · rw [if_pos q2] at e2
        by_cases r1 : r = j
        · rw [if_pos r1] at e2; omega
        · rw [if_neg r1] at e2
          by_cases r2 : r = i
          · omega
          · rw [if_neg r2] at e2; omega
      · rw [if_neg q2] at e2
        by_cases r1 : r = j
        · rw [if_pos r1] at e2; omega
        · rw [if_neg r1] at e2
          by_cases r2 : r = i
          · rw [if_pos r2] at e2; omega
          · rw [if_neg r2] at e2; exact e2
theorem rl_push {n v : Nat} {a : Nat → Int32} (h : rl_Ok n a) (hn : n < 10) (hv : v < 100) (hd : ∀ i, i < n → a i ≠ nI v) : rl_Ok (n + 1) (upd a n (nI v)) := by
  refine ⟨by omega, fun q hq => ?_, fun q r hq hr e => ?_⟩
  · by_cases c : q = n
    · rw [c, pk_us]; exact ⟨v, hv, rfl⟩
    · rw [pk_un c]; exact h.2.1 q (by omega)
  · by_cases c : q = n
    · by_cases d : r = n
      · omega
      · rw [c, pk_us, pk_un d] at e
        exact absurd e.symm (hd r (by omega))
    · by_cases d : r = n
      · rw [d, pk_us, pk_un c] at e
        exact absurd e (hd q (by omega))
      · rw [pk_un c, pk_un d] at e
        exact h.2.2 q r (by omega) (by omega) e
theorem rl_pop {n : Nat} {a : Nat → Int32} (h : rl_Ok (n + 1) a) : rl_Ok n a := ⟨by have := h.1; omega, fun i hi => h.2.1 i (by omega), fun i j hi hj e => h.2.2 i j (by omega) (by omega) e⟩
def rl_mi (a : Nat → Int32) (n : Nat) : Nat → Int32 := fun q => if q < n then 99 - a q else a q
theorem rl_mi0 (a : Nat → Int32) : rl_mi a 0 = a := funext fun q => if_neg (Nat.not_lt_zero q)
theorem rl_mis (a : Nat → Int32) (i : Nat) : upd (rl_mi a i) i (99 - rl_mi a i i) = rl_mi a (i + 1) := by
  funext q
  unfold upd rl_mi
  by_cases c : q = i
  · simp [c]
  · have e : q < i + 1 ↔ q < i := by omega
    simp [c, e]
theorem rl_99 {v : Nat} (hv : v < 100) : (99 : Int32) - nI v = nI (99 - v) := pk_sub (a := 99) (by omega)
theorem rl_miOk {n : Nat} {a : Nat → Int32} (h : rl_Ok n a) : rl_Ok n (rl_mi a n) := by
  have e1 : ∀ q, q < n → rl_mi a n q = nI (99 - rl_f a q) := by
    intro q hq
    have h1 := rl_val h hq
    unfold rl_mi
    rw [if_pos hq, h1.1, rl_99 h1.2]
  refine ⟨h.1, fun q hq => ⟨_, by omega, e1 q hq⟩, fun q r hq hr e => ?_⟩
  rw [e1 q hq, e1 r hr, nI_eq (by omega) (by omega)] at e
  have h1 := rl_val h hq
  have h2 := rl_val h hr
  exact rl_inj h q r hq hr (by omega)
def rl_rv (a : Nat → Int32) (n : Nat) : Nat → Nat → Int32
  | 0 => a
  | i + 1 => rl_sw (rl_rv a n i) i (n - 1 - i)
theorem rl_rvOk {n : Nat} {a : Nat → Int32} (h : rl_Ok n a) : ∀ i, i ≤ n → rl_Ok n (rl_rv a n i) := by
  intro i
  induction i with
  | zero => intro _; exact h
  | succ i ih => intro hi; exact rl_swOk (ih (by omega)) (by omega) (by omega)
def rl_up (a : Nat → Int32) (f p : Nat) : Nat → Int32 := fun j => if f ≤ j ∧ j < p then a (j + 1) else a j
def rl_mu (a : Nat → Int32) (f p : Nat) : Nat → Int32 := fun j => if f ≤ j ∧ j < p then a (j + 1) else if j = p then a f else a j
def rl_dn (a : Nat → Int32) (f p : Nat) : Nat → Int32 := fun j => if p < j ∧ j ≤ f then a (j - 1) else a j
def rl_md (a : Nat → Int32) (f p : Nat) : Nat → Int32 := fun j => if p < j ∧ j ≤ f then a (j - 1) else if j = p then a f else a j
theorem rl_up0 (a : Nat → Int32) (f : Nat) : rl_up a f f = a := funext fun j => if_neg (by omega)
theorem rl_dn0 (a : Nat → Int32) (f : Nat) : rl_dn a f f = a := funext fun j => if_neg (by omega)
theorem rl_mu0 (a : Nat → Int32) (f : Nat) : rl_mu a f f = a := by
  funext j
  unfold rl_mu
  rw [if_neg (by omega)]
  by_cases c : j = f
  · rw [if_pos c, c]
  · rw [if_neg c]
theorem rl_md0 (a : Nat → Int32) (f : Nat) : rl_md a f f = a := by
  funext j
  unfold rl_md
  rw [if_neg (by omega)]
  by_cases c : j = f
  · rw [if_pos c, c]
  · rw [if_neg c]
theorem rl_ups (a : Nat → Int32) {f p : Nat} (h : f ≤ p) : upd (rl_up a f p) p (rl_up a f p (p + 1)) = rl_up a f (p + 1) := by
  funext j
  unfold upd rl_up
  by_cases c : j = p
  · rw [if_pos c, if_neg (by omega), if_pos (by omega), c]
  · rw [if_neg c]
    by_cases d : f ≤ j ∧ j < p
    · rw [if_pos d, if_pos (by omega)]
    · rw [if_neg d, if_neg (by omega)]
theorem rl_upE (a : Nat → Int32) (f p : Nat) : upd (rl_up a f p) p (a f) = rl_mu a f p := by
  funext j
  unfold upd rl_up rl_mu
  by_cases c : j = p
  · rw [if_pos c, if_neg (by omega), if_pos c]
  · rw [if_neg c, if_neg c]
theorem rl_mus (a : Nat → Int32) {f p : Nat} (h : f ≤ p) : rl_sw (rl_mu a f p) p (p + 1) = rl_mu a f (p + 1) := by
  funext j
  rw [rl_swq]
  unfold rl_mu
  by_cases c : j = p + 1
  · rw [if_pos c, if_neg (by omega), if_pos rfl, if_neg (by omega), if_pos c]
  · rw [if_neg c]
    by_cases d : j = p
    · rw [if_pos d, if_neg (by omega), if_neg (by omega), if_pos (by omega), d]
    · rw [if_neg d, if_neg d]
      by_cases e : f ≤ j ∧ j < p
      · rw [if_pos e, if_pos (by omega)]
      · rw [if_neg e, if_neg (by omega), if_neg c]
theorem rl_dns (a : Nat → Int32) {f p : Nat} (h : p + 1 ≤ f) : upd (rl_dn a f (p + 1)) (p + 1) (rl_dn a f (p + 1) p) = rl_dn a f p := by
  funext j
  unfold upd rl_dn
  by_cases c : j = p + 1
  · rw [if_pos c, if_neg (by omega), if_pos (by omega), c]
    rfl
  · rw [if_neg c]
    by_cases d : p + 1 < j ∧ j ≤ f
    · rw [if_pos d, if_pos (by omega)]
    · rw [if_neg d, if_neg (by omega)]
theorem rl_dnE (a : Nat → Int32) (f p : Nat) : upd (rl_dn a f p) p (a f) = rl_md a f p := by
  funext j
  unfold upd rl_dn rl_md
  by_cases c : j = p
  · rw [if_pos c, if_neg (by omega), if_pos c]
  · rw [if_neg c, if_neg c]
theorem rl_mds (a : Nat → Int32) {f p : Nat} (h : p + 1 ≤ f) : rl_sw (rl_md a f (p + 1)) (p + 1) p = rl_md a f p := by
  funext j
  rw [rl_swq]
  unfold rl_md
  by_cases c : j = p
  · rw [if_pos c, if_neg (by omega), if_pos rfl, if_neg (by omega), if_pos c]
  · rw [if_neg c]
    by_cases d : j = p + 1
    · rw [if_pos d, if_neg (by omega), if_neg (by omega), if_pos (by omega), d]
      rfl
    · rw [if_neg d, if_neg d]
      by_cases e : p + 1 < j ∧ j ≤ f
      · rw [if_pos e, if_pos (by omega)]
      · rw [if_neg e, if_neg (by omega), if_neg c]
theorem rl_muOk {n : Nat} {a : Nat → Int32} (h : rl_Ok n a) {f : Nat} : ∀ d, f + d < n → rl_Ok n (rl_mu a f (f + d)) := by
  intro d
  induction d with
  | zero => intro _; show rl_Ok n (rl_mu a f f); rw [rl_mu0]; exact h
  | succ d ih =>
    intro hd
    show rl_Ok n (rl_mu a f (f + d + 1))
    rw [← rl_mus a (by omega)]
    exact rl_swOk (ih (by omega)) (by omega) (by omega)
theorem rl_mdOk {n : Nat} {a : Nat → Int32} (h : rl_Ok n a) {f : Nat} (hf : f < n) : ∀ d p, p + d = f → rl_Ok n (rl_md a f p) := by
  intro d
  induction d with
  | zero => intro p hp; have e : p = f := hp; rw [e, rl_md0]; exact h
  | succ d ih =>
    intro p hp
    rw [← rl_mds a (by omega)]
    exact rl_swOk (ih (p + 1) (by omega)) (by omega) (by omega)
end
end
section
section
/-- the tableau that the array of 100 cells holds -/
def ta_T (t : Nat → Int32) : Nat → Nat → Nat := fun r c => if c < 10 then (t (r * 10 + c)).toNatClampNeg else 0
def ta_Ok (t : Nat → Int32) : Prop := ∀ q, q < 100 → ∃ v : Nat, v ≤ 100 ∧ t q = nI v
theorem ta_val {t : Nat → Int32} (h : ta_Ok t) {r c : Nat} (hr : r < 10) (hc : c < 10) : t (r * 10 + c) = nI (ta_T t r c) ∧ ta_T t r c ≤ 100 := by
  obtain ⟨v, hv, e⟩ := h (r * 10 + c) (by omega)
  unfold ta_T
  rw [if_pos hc, e, nI_clamp (by omega)]
  exact ⟨rfl, hv⟩
theorem ta_upd (t : Nat → Int32) {i j x : Nat} (hj : j < 10) (hx : x < 2 ^ 31) : ta_T (upd t (i * 10 + j) (nI x)) = tb_u (ta_T t) i j x := by
  funext r c
  unfold ta_T tb_u upd
  dsimp only
  by_cases c10 : c < 10
  · by_cases e : r = i ∧ c = j
    · rw [if_pos c10, if_pos e, if_pos (by omega), nI_clamp hx]
    · rw [if_pos c10, if_neg e, if_neg (by omega), if_pos c10]
  · rw [if_neg c10, if_neg (by omega), if_neg c10]
theorem ta_updOk {t : Nat → Int32} (h : ta_Ok t) (q : Nat) {x : Nat} (hx : x ≤ 100) : ta_Ok (upd t q (nI x)) := by
  intro r hr
  by_cases e : r = q
  · rw [e, pk_us]; exact ⟨x, hx, rfl⟩
  · rw [pk_un e]; exact h r hr
theorem ta_fr {t : Nat → Int32} (h : ∀ q, q < 100 → t q = nI 100) : ta_Ok t ∧ ∀ i j, i < 10 → j < 10 → ta_T t i j = 100 := by
  refine ⟨fun q hq => ⟨100, Nat.le_refl _, h q hq⟩, fun i j hi hj => ?_⟩
  unfold ta_T
  rw [if_pos hj, h _ (by omega), nI_clamp (by omega)]
/-- the array holds a tableau of the word w -/
def ta_B (w : List Nat) (t : Nat → Int32) : Prop := ta_Ok t ∧ tb_T (ta_T t) ∧ kn_E w (tb_w (ta_T t) 0 10)
/-- an insertion under way: the lines below i are done, c is carried -/
def ta_I (w : List Nat) (t : Nat → Int32) (i c : Nat) : Prop := ta_Ok t ∧ tb_I w (ta_T t) i c
theorem ta_b0 {t : Nat → Int32} (h : ∀ q, q < 100 → t q = nI 100) : ta_B [] t := by
  have h1 := ta_fr h
  have h2 := tb_free h1.2
  exact ⟨h1.1, h2.1, h2.2⟩
theorem ta_bI {w : List Nat} {t : Nat → Int32} {x : Nat} (h : ta_B w t) (hx : x < 100) : ta_I (w ++ [x]) t 0 x := ⟨h.1, tb_begin h.2.1 hx h.2.2⟩
theorem ta_Ib {w : List Nat} (hl : w.length ≤ 10) {t : Nat → Int32} {c : Nat} (h : ta_I w t 10 c) : ta_B w t := ⟨h.1, tb_end hl h.2⟩
theorem ta_s {w : List Nat} (hn : w.Nodup) (hl : w.length ≤ 10) {t : Nat → Int32} {i c : Nat} (I : ta_I w t i c) (hi : i < 10) (hc : c < 100) {j : Nat} (hj : j ≤ 10) (lo : ∀ q, q < j → ta_T t i q ≤ c) (up : j < 10 → c < ta_T t i j) : j < 10 ∧ ta_I w (upd t (i * 10 + j) (nI c)) (i + 1) (ta_T t i j) := by
  obtain ⟨h1, h2⟩ := tb_step hn hl I.2 hi hc hj lo up
  refine ⟨h1, ta_updOk I.1 _ (by omega), ?_⟩
  rw [ta_upd t h1 (by omega)]
  exact h2
theorem ta_c {w : List Nat} {t : Nat → Int32} {i c : Nat} (I : ta_I w t i c) : c ≤ 100 := I.2.2.1
theorem ta_sk {w : List Nat} {t : Nat → Int32} {i : Nat} (I : ta_I w t i 100) (hi : i < 10) : ta_I w t (i + 1) 100 := ⟨I.1, tb_skip I.2 hi⟩
end
end
section
section
theorem yb_or (a b : Nat) : nI a ||| nI b = nI (a ||| b) := by
  apply Int32.toBitVec_inj.1
  show BitVec.ofNat 32 a ||| BitVec.ofNat 32 b = BitVec.ofNat 32 (a ||| b)
  apply BitVec.eq_of_getLsbD_eq
  intro i hi
  simp [hi]
theorem yb_bit {p i : Nat} (hp : p < 2 ^ 31) (hi : i < 32) : (nI p >>> (nI i &&& 31)) &&& 1 = nI (if p.testBit i = true then 1 else 0) := by
  rw [pk_shrN hp _ i (s_l i hi)]
  show nI (p / 2 ^ i) &&& nI 1 = _
  rw [nx_and, Nat.and_one_is_mod, Nat.testBit_eq_decide_div_mod_eq]
  congr 1
  by_cases h : p / 2 ^ i % 2 = 1
  · simp [h]
  · have : p / 2 ^ i % 2 = 0 := by omega
    simp [this]
theorem yb_one {i : Nat} (hi : i < 31) : (1 : Int32) <<< (nI i &&& 31) = nI (2 ^ i) := by
  have h1 : 2 ^ i < 2 ^ 32 := Nat.pow_lt_pow_right (by decide) (by omega)
  have h := pk_shlN (n := 1) (nI i &&& 31) i (s_l i (by omega)) (by rw [Nat.one_mul]; exact h1)
  rw [Nat.one_mul] at h
  exact h
theorem yb_p10 {n : Nat} (hn : n ≤ 10) : 2 ^ n ≤ 1024 := Nat.pow_le_pow_right (by decide) hn
theorem yb_sub {p w n : Nat} (hp : p < 2 ^ n) : p &&& w = p ↔ ∀ i, i < n → p.testBit i = true → w.testBit i = true := by
  constructor
  · intro h i _ hi
    have e := congrArg (fun z => z.testBit i) h
    simp only [Nat.testBit_and, hi, Bool.true_and] at e
    exact e
  · intro h
    apply Nat.eq_of_testBit_eq
    intro i
    rw [Nat.testBit_and]
    by_cases hi : i < n
    · by_cases hb : p.testBit i = true
      · rw [hb, h i hi hb]; rfl
      · have : p.testBit i = false := by simpa using hb
        rw [this]; rfl
    · have : p.testBit i = false := Nat.testBit_lt_two_pow (Nat.lt_of_lt_of_le hp (Nat.pow_le_pow_right (by decide) (by omega)))
      rw [this]; rfl
theorem yb_size {f : Nat → Nat} {p n : Nat} (hn : n ≤ 10) (hp : p < 2 ^ n) : sm_s (fun i => if p.testBit i = true then 1 else 0) 10 = (sl_l f p.testBit n).length := by
  rw [sl_len]
  have h := sm_tail (f := fun i => if p.testBit i = true then 1 else 0) (a := n) (10 - n) (fun i h1 _ => by
    have : p.testBit i = false := Nat.testBit_lt_two_pow (Nat.lt_of_lt_of_le hp (Nat.pow_le_pow_right (by decide) h1))
    simp [this])
  rwa [show n + (10 - n) = 10 by omega] at h
theorem yb_all {n i : Nat} : (2 ^ n - 1).testBit i = decide (i < n) := Nat.testBit_two_pow_sub_one n i
theorem yb_wi {w i : Nat} {c : Nat → Bool} (hw : w < 2 ^ i) (h : ∀ q, w.testBit q = (decide (q < i) && c q)) (hc : c i = true) : w ||| 2 ^ i < 2 ^ (i + 1) ∧ ∀ q, (w ||| 2 ^ i).testBit q = (decide (q < i + 1) && c q) := by
  constructor
  · exact Nat.or_lt_two_pow (Nat.lt_of_lt_of_le hw (Nat.pow_le_pow_right (by decide) (by omega))) (Nat.pow_lt_pow_right (by decide) (by omega))
  · intro q
    rw [Nat.testBit_or, h q, Nat.testBit_two_pow]
    by_cases e : i = q
    · rw [← e, hc]; simp
    · by_cases e2 : q < i
      · have e3 : q < i + 1 := by omega
        simp [e, e2, e3]
      · have e3 : ¬ q < i + 1 := by omega
        simp [e, e2, e3]
theorem yb_wn {w i : Nat} {c : Nat → Bool} (hw : w < 2 ^ i) (h : ∀ q, w.testBit q = (decide (q < i) && c q)) (hc : ¬ c i = true) : w < 2 ^ (i + 1) ∧ ∀ q, w.testBit q = (decide (q < i + 1) && c q) := by
  constructor
  · exact Nat.lt_of_lt_of_le hw (Nat.pow_le_pow_right (by decide) (by omega))
  · intro q
    rw [h q]
    by_cases e : i = q
    · have : c q = false := by rw [← e]; simpa using hc
      simp [this]
    · by_cases e2 : q < i
      · have e3 : q < i + 1 := by omega
        simp [e2, e3]
      · have e3 : ¬ q < i + 1 := by omega
        simp [e2, e3]
end
end
section
section
theorem i_vc0 : wpX_init (fun u => wpY_init (fun v => i_Rel 0 u v)) := by
  refine ⟨0, fun _ => 0, fun _ => 0, fun _ => 0, fun _ => 0, fun _ => 0, fun _ => 0, fun _ => 0, fun _ => 0, rfl, rfl, by omega, fun i hi => absurd hi (by omega), fun i j hi => absurd hi (by omega)⟩
theorem rl_mk {k n : Nat} {a t lb wb be sh we wy : Nat → Int32} (h : rl_Ok n a) : i_Rel k (nI n, a, t, lb, wb) (nI n, a, be, sh, we, wy) := ⟨n, a, t, lb, wb, be, sh, we, wy, rfl, rfl, h⟩
theorem xw_inRow {n : Nat} {a t lb wb : Nat → Int32} {post : Int32 → Prop} (hn : n ≤ 10) {x : Int32} (h1 : ∀ i, i < n → a i = x → post 1) (h0 : (∀ i, i < n → a i ≠ x) → post 0) : wpX_isInRow post (nI n, a, t, lb, wb) x := by
  have H : ∀ d i, i + d = n → (∀ q, q < i → a q ≠ x) → wX_isInRow_2 post x (nI n) a t lb wb (d + 1) (nI i) := by
    intro d
    induction d with
    | zero =>
      intro i hi hq
      exact br_t (nI_le (by omega) (by omega)) (h0 (fun q hq' => hq q (by omega)))
    | succ d ih =>
      intro i hi hq
      refine br_f (nI_ge (by omega) (by omega)) ⟨vp_in_nI (by omega) (by omega), ?_⟩
      rw [nI_clamp (by omega)]
      by_cases e : a i = x
      · exact br_t e (h1 i (by omega) e)
      · refine br_f e (nm_r (nI_1 i) (ih (i + 1) (by omega) ?_))
        intro q hq'
        by_cases e2 : q = i
        · rw [e2]; exact e
        · exact hq q (by omega)
  exact ⟨n + 1, H n 0 (by omega) (fun q hq => absurd hq (by omega))⟩
theorem yw_holds {n : Nat} {a be sh we wy : Nat → Int32} {post : Int32 → Prop} (hn : n ≤ 10) {x : Int32} (h1 : ∀ i, i < n → a i = x → post 1) (h0 : (∀ i, i < n → a i ≠ x) → post 0) : wpY_holds post (nI n, a, be, sh, we, wy) x := by
  have H : ∀ d i, i + d = n → (∀ q, q < i → a q ≠ x) → wY_holds_2 post x (nI n) a be sh we wy (d + 1) (nI i) := by
    intro d
    induction d with
    | zero =>
      intro i hi hq
      exact br_t (nI_le (by omega) (by omega)) (h0 (fun q hq' => hq q (by omega)))
    | succ d ih =>
      intro i hi hq
      refine br_f (nI_ge (by omega) (by omega)) (br_f (nI_ge (b := 10) (by omega) (by omega)) ⟨vp_in_nI (by omega) (by omega), ?_⟩)
      rw [nI_clamp (by omega)]
      by_cases e : a i = x
      · exact br_t e (h1 i (by omega) e)
      · refine br_f e (nm_r (nI_1 i) (ih (i + 1) (by omega) ?_))
        intro q hq'
        by_cases e2 : q = i
        · rw [e2]; exact e
        · exact hq q (by omega)
  exact ⟨n + 1, H n 0 (by omega) (fun q hq => absurd hq (by omega))⟩
theorem i_vc_push {k : Nat} {u : SX} {v : SY} (I : i_Rel k u v) (hk : k + 3 ≤ 1536) (v1 : Int32) : wpX_push (fun r u' => wpY_push (fun r' v' => r' = r ∧ i_Rel (k + 3) u' v') v v1) u v1 := by
  obtain ⟨n, a, t, lb, wb, be, sh, we, wy, rfl, rfl, ok⟩ := I
  have hn := ok.1
  by_cases h0 : v1 < 0
  · exact br_t h0 (br_t h0 ⟨rfl, rl_mk ok⟩)
  · by_cases h99 : v1 ≤ 99
    · refine br_f h0 (br_t h99 ?_)
      by_cases hin : ∃ i, i < n ∧ a i = v1
      · refine xw_inRow hn (fun i hi e => br_f (by decide) ?_) (fun hne => absurd hin (fun ⟨i, hi, e⟩ => hne i hi e))
        refine br_f h0 (br_t h99 ?_)
        exact yw_holds hn (fun i hi e => br_f (by decide) ⟨rfl, rl_mk ok⟩) (fun hne => absurd hin (fun ⟨i, hi, e⟩ => hne i hi e))
      · refine xw_inRow hn (fun i hi e => absurd ⟨i, hi, e⟩ hin) (fun hne => br_t rfl ?_)
        by_cases h10 : n < 10
        · refine br_t (nI_lt (b := 10) h10 (by omega)) ⟨vp_in_nI h10 (by omega), nm_e (nm_e ?_)⟩
          refine br_f h0 (br_t h99 ?_)
          refine yw_holds hn (fun i hi e => absurd e (hne i hi)) (fun _ => br_t rfl ?_)
          refine br_t (nI_lt (b := 10) h10 (by omega)) ⟨vp_in_nI h10 (by omega), nm_e (nm_e ⟨rfl, ?_⟩)⟩
          rw [nI_clamp (by omega), nI_1]
          obtain ⟨j, hj, e⟩ := nI_of h0
          have hj2 : j < 100 := by
            rw [e] at h99
            have := (nI_leI hj (by omega : 99 < 2 ^ 31)).mp h99
            omega
          rw [e]
          exact rl_mk (rl_push ok h10 hj2 (fun i hi => by rw [← e]; exact hne i hi))
        · refine br_f (nI_nlt (b := 10) (by omega) (by omega)) ?_
          refine br_f h0 (br_t h99 ?_)
          refine yw_holds hn (fun i hi e => absurd e (hne i hi)) (fun _ => br_t rfl ?_)
          exact br_f (nI_nlt (b := 10) (by omega) (by omega)) ⟨rfl, rl_mk ok⟩
    · exact br_f h0 (br_f h99 (br_f h0 (br_f h99 ⟨rfl, rl_mk ok⟩)))
theorem i_vc_pop {k : Nat} {u : SX} {v : SY} (I : i_Rel k u v) (hk : k + 3 ≤ 1536) : wpX_pop (fun r u' => wpY_pop (fun r' v' => r' = r ∧ i_Rel (k + 3) u' v') v) u := by
  obtain ⟨n, a, t, lb, wb, be, sh, we, wy, rfl, rfl, ok⟩ := I
  have hn := ok.1
  cases n with
  | zero => exact br_t nI_0 (br_t nI_0 ⟨rfl, rl_mk ok⟩)
  | succ n =>
    have hz : ¬ nI (n + 1) = 0 := nI_ne0 (by omega) (by omega)
    refine br_f hz (nm_r (nI_pred n) ⟨vp_in_nI (by omega) (by omega), ?_⟩)
    refine br_f hz (nm_r (nI_pred n) ⟨vp_in_nI (by omega) (by omega), rfl, ?_⟩)
    exact rl_mk (rl_pop ok)
theorem xw_gt {n j : Nat} {a t lb wb : Nat → Int32} {post : Int32 → Prop} (hn : n ≤ 10) (hj : j < n) (h : post 1) : wpX_isGood post (nI n, a, t, lb, wb) (nI j) :=
  br_f (nI_pos (by omega)) (br_f (nI_ge hj (by omega)) h)
theorem xw_gf {n : Nat} {a t lb wb : Nat → Int32} {post : Int32 → Prop} {p : Int32} (hn : n ≤ 10) (hp : p < 0 ∨ nI n ≤ p) (h : post 0) : wpX_isGood post (nI n, a, t, lb, wb) p := by
  rcases hp with hp | hp
  · exact br_t hp h
  · exact br_f (Int32.not_lt.mpr (Int32.le_trans (nI_pos' (by omega)) hp)) (br_t hp h)
theorem yw_bt {n j : Nat} {a be sh we wy : Nat → Int32} {post : Int32 → Prop} (hn : n ≤ 10) (hj : j < n) (h : post 0) : wpY_bad post (nI n, a, be, sh, we, wy) (nI j) :=
  br_f (nI_pos (by omega)) (br_f (nI_ge hj (by omega)) (br_t (nI_le (b := 9) (by omega) (by omega)) h))
theorem yw_bf {n : Nat} {a be sh we wy : Nat → Int32} {post : Int32 → Prop} {p : Int32} (hn : n ≤ 10) (hp : p < 0 ∨ nI n ≤ p) (h : post 1) : wpY_bad post (nI n, a, be, sh, we, wy) p := by
  rcases hp with hp | hp
  · exact br_t hp h
  · exact br_f (Int32.not_lt.mpr (Int32.le_trans (nI_pos' (by omega)) hp)) (br_t hp h)
theorem rl_cs (p : Int32) {n : Nat} (hn : n ≤ 10) : (p < 0 ∨ nI n ≤ p) ∨ ∃ j, j < n ∧ p = nI j := by
  rcases pk_ix p (by omega : n < 2 ^ 31) with h | h | h
  · exact Or.inl (Or.inl h)
  · exact Or.inl (Or.inr h)
  · exact Or.inr h
theorem xw_swap {n i j : Nat} {a t lb wb : Nat → Int32} {post : SX → Prop} (hn : n ≤ 10) (hi : i < n) (hj : j < n) (h : post (nI n, rl_sw a i j, t, lb, wb)) : wpX_swap post (nI n, a, t, lb, wb) (nI i) (nI j) := by
  refine ⟨vp_in_nI (by omega) (by omega), fun x3 e3 => ⟨vp_in_nI (by omega) (by omega), vp_in_nI (by omega) (by omega), fun r5 e5 => ⟨vp_in_nI (by omega) (by omega), fun r7 e7 => ?_⟩⟩⟩
  subst e7
  subst e5
  subst e3
  rw [nI_clamp (by omega : i < 2 ^ 31), nI_clamp (by omega : j < 2 ^ 31)]
  exact h
theorem yw_exch {n i j : Nat} {a be sh we wy : Nat → Int32} {post : Int32 → SY → Prop} (hn : n ≤ 10) (hi : i < n) (hj : j < n) (h : post 0 (nI n, rl_sw a i j, be, sh, we, wy)) : wpY_exchange post (nI n, a, be, sh, we, wy) (nI i) (nI j) := by
  unfold wpY_exchange
  dsimp only
  refine yw_bt hn hi (br_t rfl ?_)
  refine yw_bt hn hj (br_t rfl ?_)
  refine ⟨vp_in_nI (by omega) (by omega), fun x3 e3 => ⟨vp_in_nI (by omega) (by omega), vp_in_nI (by omega) (by omega), fun r5 e5 => ⟨vp_in_nI (by omega) (by omega), fun r7 e7 => ?_⟩⟩⟩
  subst e7
  subst e5
  subst e3
  rw [nI_clamp (by omega : i < 2 ^ 31), nI_clamp (by omega : j < 2 ^ 31)]
  exact h
theorem i_vc_exchange {k : Nat} {u : SX} {v : SY} (I : i_Rel k u v) (hk : k + 3 ≤ 1536) (v1 : Int32) (v2 : Int32) : wpX_exchange (fun r u' => wpY_exchange (fun r' v' => r' = r ∧ i_Rel (k + 3) u' v') v v1 v2) u v1 v2 := by
  obtain ⟨n, a, t, lb, wb, be, sh, we, wy, rfl, rfl, ok⟩ := I
  have hn := ok.1
  unfold wpX_exchange
  dsimp only
  rcases rl_cs v1 hn with h1 | ⟨i, hi, rfl⟩
  · refine xw_gf hn h1 (br_t rfl ?_)
    unfold wpY_exchange
    dsimp only
    exact yw_bf hn h1 (br_f (by decide) ⟨rfl, rl_mk ok⟩)
  · refine xw_gt hn hi (br_f (by decide) ?_)
    rcases rl_cs v2 hn with h2 | ⟨j, hj, rfl⟩
    · refine xw_gf hn h2 (br_t rfl ?_)
      unfold wpY_exchange
      dsimp only
      refine yw_bt hn hi (br_t rfl ?_)
      exact yw_bf hn h2 (br_f (by decide) ⟨rfl, rl_mk ok⟩)
    · refine xw_gt hn hj (br_f (by decide) ?_)
      refine xw_swap hn hi hj ?_
      exact yw_exch hn hi hj ⟨rfl, rl_mk (rl_swOk ok hi hj)⟩
theorem i_vc_reverse {k : Nat} {u : SX} {v : SY} (I : i_Rel k u v) (hk : k + 3 ≤ 1536) : wpX_reverse (fun r u' => wpY_reverse (fun r' v' => r' = r ∧ i_Rel (k + 3) u' v') v) u := by
  obtain ⟨n, a, t, lb, wb, be, sh, we, wy, rfl, rfl, ok⟩ := I
  have hn := ok.1
  have e2 : nI n / 2 = nI (n / 2) := pk_div (d := 2) (by omega) (by omega) (by omega)
  have e3 : ∀ i, i < n → (nI n - 1) - nI i = nI (n - 1 - i) := by
    intro i hi
    show (nI n - nI 1) - nI i = _
    rw [pk_sub (by omega), pk_sub (by omega)]
  have Y : ∀ (post : Int32 → SY → Prop), post (nI n) (nI n, rl_rv a n (n / 2), be, sh, we, wy) → ∀ d i, i + d = n / 2 → wY_reverse_2 post (d + 1) (nI i) (nI n) (rl_rv a n i) be sh we wy := by
    intro post hp d
    induction d with
    | zero =>
      intro i hi
      refine ⟨by decide, ?_⟩
      rw [e2]
      have e : i = n / 2 := hi
      rw [e]
      exact br_t (nI_le (by omega) (by omega)) hp
    | succ d ih =>
      intro i hi
      refine ⟨by decide, ?_⟩
      rw [e2, e3 i (by omega)]
      refine br_f (nI_ge (by omega) (by omega)) ?_
      refine yw_exch hn (by omega) (by omega) ?_
      exact nm_r (nI_1 i) (ih (i + 1) (by omega))
  have X : ∀ (post : Int32 → SX → Prop), post (nI n) (nI n, rl_rv a n (n / 2), t, lb, wb) → ∀ d i, i + d = n / 2 → wX_reverse_2 post (d + 1) (nI i) (nI n) (rl_rv a n i) t lb wb := by
    intro post hp d
    induction d with
    | zero =>
      intro i hi
      refine ⟨by decide, ?_⟩
      rw [e2]
      have e : i = n / 2 := hi
      rw [e]
      exact br_t (nI_le (by omega) (by omega)) hp
    | succ d ih =>
      intro i hi
      refine ⟨by decide, ?_⟩
      rw [e2, e3 i (by omega)]
      refine br_f (nI_ge (by omega) (by omega)) ?_
      refine xw_swap hn (by omega) (by omega) ?_
      exact nm_r (nI_1 i) (ih (i + 1) (by omega))
  refine ⟨n / 2 + 1, X _ ?_ (n / 2) 0 (by omega)⟩
  exact ⟨n / 2 + 1, Y _ ⟨rfl, rl_mk (rl_rvOk ok _ (by omega))⟩ (n / 2) 0 (by omega)⟩
theorem i_vc_mirror {k : Nat} {u : SX} {v : SY} (I : i_Rel k u v) (hk : k + 3 ≤ 1536) : wpX_mirror (fun r u' => wpY_mirror (fun r' v' => r' = r ∧ i_Rel (k + 3) u' v') v) u := by
  obtain ⟨n, a, t, lb, wb, be, sh, we, wy, rfl, rfl, ok⟩ := I
  have hn := ok.1
  have Y : ∀ (post : Int32 → SY → Prop), post (nI n) (nI n, rl_mi a n, be, sh, we, wy) → ∀ d i, i + d = n → wY_mirror_2 post (nI n) (d + 1) (nI i) (rl_mi a i) be sh we wy := by
    intro post hp d
    induction d with
    | zero =>
      intro i hi
      have e : i = n := hi
      rw [e]
      exact br_t (nI_le (by omega) (by omega)) hp
    | succ d ih =>
      intro i hi
      refine br_f (nI_ge (by omega) (by omega)) (br_f (nI_ge (b := 10) (by omega) (by omega)) ⟨vp_in_nI (by omega) (by omega), vp_in_nI (by omega) (by omega), nm_r (e' := rl_mi a (i + 1)) ?_ (nm_r (nI_1 i) (ih (i + 1) (by omega)))⟩)
      rw [nI_clamp (by omega), rl_mis]
  have X : ∀ (post : Int32 → SX → Prop), post (nI n) (nI n, rl_mi a n, t, lb, wb) → ∀ d i, i + d = n → wX_mirror_2 post (nI n) (d + 1) (nI i) (rl_mi a i) t lb wb := by
    intro post hp d
    induction d with
    | zero =>
      intro i hi
      have e : i = n := hi
      rw [e]
      exact br_t (nI_le (by omega) (by omega)) hp
    | succ d ih =>
      intro i hi
      refine br_f (nI_ge (by omega) (by omega)) ⟨vp_in_nI (by omega) (by omega), vp_in_nI (by omega) (by omega), nm_r (e' := rl_mi a (i + 1)) ?_ (nm_r (nI_1 i) (ih (i + 1) (by omega)))⟩
      rw [nI_clamp (by omega), rl_mis]
  have x0 := X (fun r u' => wpY_mirror (fun r' v' => r' = r ∧ i_Rel (k + 3) u' v') (nI n, a, be, sh, we, wy)) (by
    have y0 := Y (fun r' v' => r' = nI n ∧ i_Rel (k + 3) (nI n, rl_mi a n, t, lb, wb) v') ⟨rfl, rl_mk (rl_miOk ok)⟩ n 0 (by omega)
    rw [rl_mi0] at y0
    exact ⟨n + 1, y0⟩) n 0 (by omega)
  rw [rl_mi0] at x0
  exact ⟨n + 1, x0⟩
theorem i_vc_length {k : Nat} {u : SX} {v : SY} (I : i_Rel k u v) (hk : k + 3 ≤ 1536) : wpX_length (fun r => wpY_length (fun r' => r' = r ∧ i_Rel (k + 3) u v) v) u := by
  obtain ⟨n, a, t, lb, wb, be, sh, we, wy, rfl, rfl, ok⟩ := I
  exact ⟨rfl, rl_mk ok⟩
theorem i_vc_at {k : Nat} {u : SX} {v : SY} (I : i_Rel k u v) (hk : k + 3 ≤ 1536) (v1 : Int32) : wpX_at (fun r => wpY_at (fun r' => r' = r ∧ i_Rel (k + 3) u v) v v1) u v1 := by
  obtain ⟨n, a, t, lb, wb, be, sh, we, wy, rfl, rfl, ok⟩ := I
  have hn := ok.1
  unfold wpX_at wpY_at
  dsimp only
  rcases rl_cs v1 hn with h1 | ⟨i, hi, rfl⟩
  · refine xw_gf hn h1 (br_t rfl ?_)
    exact yw_bf hn h1 (br_f (by decide) ⟨rfl, rl_mk ok⟩)
  · refine xw_gt hn hi (br_f (by decide) ⟨vp_in_nI (by omega) (by omega), ?_⟩)
    exact yw_bt hn hi (br_t rfl ⟨vp_in_nI (by omega) (by omega), rfl, rl_mk ok⟩)
theorem i_vc_move {k : Nat} {u : SX} {v : SY} (I : i_Rel k u v) (hk : k + 3 ≤ 1536) (v1 : Int32) (v2 : Int32) : wpX_move (fun r u' => wpY_move (fun r' v' => r' = r ∧ i_Rel (k + 3) u' v') v v1 v2) u v1 v2 := by
  obtain ⟨n, a, t, lb, wb, be, sh, we, wy, rfl, rfl, ok⟩ := I
  have hn := ok.1
  unfold wpX_move
  dsimp only
  rcases rl_cs v1 hn with h1 | ⟨f, hf, rfl⟩
  · refine xw_gf hn h1 (br_t rfl ?_)
    unfold wpY_move
    dsimp only
    exact yw_bf hn h1 (br_f (by decide) ⟨rfl, rl_mk ok⟩)
  · refine xw_gt hn hf (br_f (by decide) ?_)
    rcases rl_cs v2 hn with h2 | ⟨g, hg, rfl⟩
    · refine xw_gf hn h2 (br_t rfl ?_)
      unfold wpY_move
      dsimp only
      refine yw_bt hn hf (br_t rfl ?_)
      exact yw_bf hn h2 (br_f (by decide) ⟨rfl, rl_mk ok⟩)
    · refine xw_gt hn hg (br_f (by decide) ⟨vp_in_nI (by omega) (by omega), nm_r (e' := a f) (by rw [nI_clamp (by omega)]) ?_⟩)
      have m1 : ∀ i, nI (i + 1) - 1 = nI i := fun i => nI_pred i
      by_cases up : f ≤ g
      · have X59 : ∀ (post : Int32 → SX → Prop) (r : Nat → Int32), post 0 (nI n, upd r g (a f), t, lb, wb) → wX_move_59 post (nI g) (a f) (nI n) 1 (nI f) r t lb wb := by
          intro post r hp
          refine br_t (nI_le up (by omega)) ⟨vp_in_nI (by omega) (by omega), nm_r (e' := upd r g (a f)) (by rw [nI_clamp (by omega)]) hp⟩
        have X28 : ∀ (post : Int32 → SX → Prop), post 0 (nI n, rl_mu a f g, t, lb, wb) → ∀ d i, i + d = g → f ≤ i → wX_move_28 post (nI f) (nI g) (a f) (nI n) (d + 1) (nI i) (rl_up a f i) t lb wb := by
          intro post hp d
          induction d with
          | zero =>
            intro i hi _
            have e : i = g := hi
            rw [e]
            refine br_t (nI_le (by omega) (by omega)) ⟨1, X59 post _ ?_⟩
            rw [rl_upE]
            exact hp
          | succ d ih =>
            intro i hi hfi
            refine br_f (nI_ge (by omega) (by omega)) ⟨?_, vp_in_nI (by omega) (by omega), nm_r (e' := rl_up a f (i + 1)) ?_ (nm_r (nI_1 i) (ih (i + 1) (by omega) (by omega)))⟩
            · rw [nI_1]; exact vp_in_nI (by omega) (by omega)
            · rw [nI_1, nI_clamp (by omega), nI_clamp (by omega), rl_ups a hfi]
        have Y42 : ∀ (post : Int32 → SY → Prop) (r : Nat → Int32), post 0 (nI n, r, be, sh, we, wy) → wY_move_42 post (nI g) 1 (nI f) (nI n) r be sh we wy := by
          intro post r hp
          exact br_t (nI_le up (by omega)) hp
        have Y20 : ∀ (post : Int32 → SY → Prop), post 0 (nI n, rl_mu a f g, be, sh, we, wy) → ∀ d i, i + d = g → f ≤ i → wY_move_20 post (nI f) (nI g) (d + 1) (nI i) (nI n) (rl_mu a f i) be sh we wy := by
          intro post hp d
          induction d with
          | zero =>
            intro i hi _
            have e : i = g := hi
            rw [e]
            exact br_t (nI_le (by omega) (by omega)) ⟨1, Y42 post _ hp⟩
          | succ d ih =>
            intro i hi hfi
            refine br_f (nI_ge (by omega) (by omega)) ?_
            rw [nI_1]
            refine yw_exch hn (by omega) (by omega) ?_
            rw [rl_mus a hfi]
            exact nm_e (ih (i + 1) (by omega) (by omega))
        have x0 := X28 (fun r u' => wpY_move (fun r' v' => r' = r ∧ i_Rel (k + 3) u' v') (nI n, a, be, sh, we, wy) (nI f) (nI g)) (by
          have y0 := Y20 (fun r' v' => r' = 0 ∧ i_Rel (k + 3) (nI n, rl_mu a f g, t, lb, wb) v') ⟨rfl, rl_mk (by
            have := rl_muOk ok (f := f) (g - f) (by omega)
            rwa [show f + (g - f) = g by omega] at this)⟩ (g - f) f (by omega) (by omega)
          rw [rl_mu0] at y0
          unfold wpY_move
          dsimp only
          refine yw_bt hn hf (br_t rfl ?_)
          refine yw_bt hn hg (br_t rfl ?_)
          exact ⟨_, y0⟩) (g - f) f (by omega) (by omega)
        rw [rl_up0] at x0
        exact ⟨_, x0⟩
      · have X59 : ∀ (post : Int32 → SX → Prop), post 0 (nI n, rl_md a f g, t, lb, wb) → ∀ d i, g + d = i → i ≤ f → wX_move_59 post (nI g) (a f) (nI n) (d + 1) (nI i) (rl_dn a f i) t lb wb := by
          intro post hp d
          induction d with
          | zero =>
            intro i hi _
            have e : i = g := hi.symm
            rw [e]
            refine br_t (nI_le (by omega) (by omega)) ⟨vp_in_nI (by omega) (by omega), nm_r (e' := rl_md a f g) (by rw [nI_clamp (by omega), rl_dnE]) hp⟩
          | succ d ih =>
            intro i hi hif
            obtain ⟨i', rfl⟩ : ∃ i', i = i' + 1 := ⟨i - 1, by omega⟩
            refine br_f (nI_ge (by omega) (by omega)) ⟨?_, vp_in_nI (by omega) (by omega), nm_r (e' := rl_dn a f i') ?_ (nm_r (pk_m1 i') (ih i' (by omega) (by omega)))⟩
            · rw [m1]; exact vp_in_nI (by omega) (by omega)
            · rw [m1, nI_clamp (by omega), nI_clamp (by omega), rl_dns a hif]
        have X28 : ∀ (post : Int32 → SX → Prop), post 0 (nI n, rl_md a f g, t, lb, wb) → wX_move_28 post (nI f) (nI g) (a f) (nI n) 1 (nI f) a t lb wb := by
          intro post hp
          have x := X59 post hp (f - g) f (by omega) (by omega)
          rw [rl_dn0] at x
          exact br_t (nI_le (by omega) (by omega)) ⟨_, x⟩
        have Y42 : ∀ (post : Int32 → SY → Prop), post 0 (nI n, rl_md a f g, be, sh, we, wy) → ∀ d i, g + d = i → i ≤ f → wY_move_42 post (nI g) (d + 1) (nI i) (nI n) (rl_md a f i) be sh we wy := by
          intro post hp d
          induction d with
          | zero =>
            intro i hi _
            have e : i = g := hi.symm
            rw [e]
            exact br_t (nI_le (by omega) (by omega)) hp
          | succ d ih =>
            intro i hi hif
            obtain ⟨i', rfl⟩ : ∃ i', i = i' + 1 := ⟨i - 1, by omega⟩
            refine br_f (nI_ge (by omega) (by omega)) ?_
            rw [m1]
            refine yw_exch hn (by omega) (by omega) ?_
            rw [rl_mds a hif]
            exact nm_r (pk_m1 i') (ih i' (by omega) (by omega))
        refine ⟨1, X28 _ ?_⟩
        have y0 := Y42 (fun r' v' => r' = 0 ∧ i_Rel (k + 3) (nI n, rl_md a f g, t, lb, wb) v') ⟨rfl, rl_mk (rl_mdOk ok hf (f - g) g (by omega))⟩ (f - g) f (by omega) (by omega)
        rw [rl_md0] at y0
        unfold wpY_move
        dsimp only
        refine yw_bt hn hf (br_t rfl ?_)
        refine yw_bt hn hg (br_t rfl ?_)
        exact ⟨1, br_t (nI_le (by omega) (by omega)) ⟨_, y0⟩⟩
end
end
section
section
theorem xw_put {i x : Nat} {s : Int32} {a t lb wb : Nat → Int32} {post : Int32 → SX → Prop} (hi : i < 10) (hx : x ≤ 100) (ok : ta_Ok t) (H1 : ∀ j, j < 10 → (∀ q, q < j → ta_T t i q ≤ x) → x < ta_T t i j → post (nI (ta_T t i j)) (s, a, upd t (i * 10 + j) (nI x), lb, wb)) (H2 : (∀ q, q < 10 → ta_T t i q ≤ x) → post 100 (s, a, t, lb, wb)) : wpX_putInLine post (s, a, t, lb, wb) (nI i) (nI x) := by
  have e10 : nI (i * 10) + 10 = nI (i * 10 + 10) := nI_add (i * 10) 10
  have H : ∀ d j, j + d = 10 → (∀ q, q < j → ta_T t i q ≤ x) → wX_putInLine_8 post (nI x) (nI (i * 10)) s a t lb wb (d + 1) (nI (i * 10 + j)) := by
    intro d
    induction d with
    | zero =>
      intro j hj lo
      have e : j = 10 := hj
      rw [e]
      refine br_t ?_ (H2 (fun q hq => lo q (by omega)))
      rw [e10]
      exact nI_le (by omega) (by omega)
    | succ d ih =>
      intro j hj lo
      have v := ta_val ok hi (by omega : j < 10)
      refine br_f ?_ ⟨vp_in_nI (by omega) (by omega), nm_r (e' := nI (ta_T t i j)) (by rw [nI_clamp (by omega)]; exact v.1) (pk_le (ta_T t i j) x (fun h => nm_r (nI_1 _) (ih (j + 1) (by omega) ?_)) (fun h => ⟨vp_in_nI (by omega) (by omega), nm_r (e' := upd t (i * 10 + j) (nI x)) (by rw [nI_clamp (by omega)]) (H1 j (by omega) lo h)⟩))⟩
      · rw [e10]
        exact nI_ge (by omega) (by omega)
      · intro q hq
        by_cases e2 : q = j
        · rw [e2]; exact h
        · exact lo q (by omega)
  exact nm_r (e' := nI (i * 10)) (pk_mul i 10) ⟨11, H 10 0 (by omega) (fun q hq => absurd hq (by omega))⟩
theorem xw_ins {w : List Nat} (hn : w.Nodup) (hl : w.length ≤ 10) {s : Int32} {a lb wb : Nat → Int32} {post : SX → Prop} (H : ∀ t', ta_B w t' → post (s, a, t', lb, wb)) : ∀ d i c t, i + d = 10 → ta_I w t i c → wX_insert_4 post (d + 1) (nI c) (nI i) s a t lb wb := by
  intro d
  induction d with
  | zero =>
    intro i c t hi I
    have e : i = 10 := hi
    rw [e] at I
    rw [e]
    exact br_t (nI_le (a := 10) (b := 10) (by omega) (by omega)) (H t (ta_Ib hl I))
  | succ d ih =>
    intro i c t hi I
    refine br_f (nI_ge (b := 10) (by omega) (by omega)) ?_
    have hc := ta_c I
    refine xw_put (by omega) hc I.1 ?_ ?_
    · intro j hj lo up
      have hb := (ta_val I.1 (by omega : i < 10) hj).2
      have h := ta_s hn hl I (by omega) (by omega) (by omega : j ≤ 10) lo (fun _ => up)
      exact nm_r (nI_1 i) (ih (i + 1) _ _ (by omega) h.2)
    · intro lo
      have hc2 : c = 100 := by
        apply Classical.byContradiction
        intro hne
        have h := ta_s hn hl I (by omega) (by omega) (Nat.le_refl 10) lo (fun h => absurd h (by omega))
        exact absurd h.1 (by omega)
      rw [hc2] at I
      exact nm_r (nI_1 i) (ih (i + 1) 100 t (by omega) (ta_sk I (by omega)))
theorem xw_insW {w : List Nat} {x : Nat} (hx : x < 100) (hn : (w ++ [x]).Nodup) (hl : (w ++ [x]).length ≤ 10) {s : Int32} {a t lb wb : Nat → Int32} (B : ta_B w t) {post : SX → Prop} (H : ∀ t', ta_B (w ++ [x]) t' → post (s, a, t', lb, wb)) : wpX_insert post (s, a, t, lb, wb) (nI x) :=
  ⟨11, xw_ins hn hl H 10 0 x t (by omega) (ta_bI B hx)⟩
theorem sl_lenle (f : Nat → Nat) (b : Nat → Bool) (n : Nat) : (sl_l f b n).length ≤ n := by
  rw [sl_len]
  have h := sm_le (f := fun i => if b i = true then 1 else 0) (g := fun _ => 1) n (fun i _ => by split <;> omega)
  rwa [sm_one] at h
/-- the numbers that makeTableau inserts -/
def mt_w (a : Nat → Int32) (B : Int32) (c : Nat) : List Nat := sl_l (rl_f a) (fun q => decide (a q ≤ B)) c
theorem xw_mk2 {n c : Nat} {a lb wb : Nat → Int32} {B : Int32} (ok : rl_Ok n a) (hc : c ≤ n) {post : SX → Prop} (H : ∀ t', ta_B (mt_w a B c) t' → post (nI n, a, t', lb, wb)) : ∀ d i t, i + d = c → ta_B (mt_w a B i) t → wX_makeTableau_24 post (nI c) B (d + 1) (nI i) (nI n) a t lb wb := by
  have hn := ok.1
  intro d
  induction d with
  | zero =>
    intro i t hi T
    have e : i = c := hi
    rw [e] at T
    rw [e]
    exact br_t (nI_le (by omega) (by omega)) (H t T)
  | succ d ih =>
    intro i t hi T
    have v := rl_val ok (by omega : i < n)
    have ea : a (nI i).toNatClampNeg = nI (rl_f a i) := by rw [nI_clamp (by omega)]; exact v.1
    refine br_f (nI_ge (by omega) (by omega)) ⟨vp_in_nI (by omega) (by omega), ?_⟩
    rw [ea]
    by_cases hb : B < nI (rl_f a i)
    · refine br_t hb (nm_r (nI_1 i) (ih (i + 1) t (by omega) ?_))
      unfold mt_w
      rw [sl_f]
      · exact T
      · rw [decide_eq_true_eq, v.1]
        exact Int32.not_le.mpr hb
    · refine br_f hb ⟨vp_in_nI (by omega) (by omega), ?_⟩
      have et : mt_w a B (i + 1) = mt_w a B i ++ [rl_f a i] := by
        unfold mt_w
        rw [sl_t]
        rw [decide_eq_true_eq, v.1]
        exact Int32.not_lt.mp hb
      refine xw_insW v.2 ?_ ?_ T ?_
      · rw [← et]
        exact sl_nd (fun x y hx hy => rl_inj ok x y (by omega) (by omega))
      · rw [← et]
        have := sl_lenle (rl_f a) (fun q => decide (a q ≤ B)) (i + 1)
        unfold mt_w
        omega
      · intro t' T'
        rw [← et] at T'
        exact nm_r (nI_1 i) (ih (i + 1) t' (by omega) T')
theorem xw_make {n c : Nat} {a t lb wb : Nat → Int32} {B : Int32} (ok : rl_Ok n a) (hc : c ≤ n) {post : SX → Prop} (H : ∀ t', ta_B (mt_w a B c) t' → post (nI n, a, t', lb, wb)) : wpX_makeTableau post (nI n, a, t, lb, wb) (nI c) B := by
  have hn := ok.1
  have L : ∀ d i t, i + d = 100 → (∀ q, q < i → t q = nI 100) → wX_makeTableau_2 post (nI c) B (nI n) (d + 1) (nI i) a t lb wb := by
    intro d
    induction d with
    | zero =>
      intro i t hi h
      have e : i = 100 := hi
      rw [e] at h
      rw [e]
      exact br_t (nI_le (a := 100) (b := 100) (by omega) (by omega)) ⟨c + 1, xw_mk2 ok hc H c 0 t (by omega) (ta_b0 h)⟩
    | succ d ih =>
      intro i t hi h
      refine br_f (nI_ge (b := 100) (by omega) (by omega)) ⟨vp_in_nI (by omega) (by omega), nm_r (e' := upd t i (nI 100)) (by rw [nI_clamp (by omega)]; rfl) (nm_r (nI_1 i) (ih (i + 1) _ (by omega) ?_))⟩
      intro q hq
      by_cases e : q = i
      · rw [e, pk_us]
      · rw [pk_un e]; exact h q (by omega)
  exact ⟨101, L 100 0 t (by omega) (fun q hq => absurd hq (by omega))⟩
theorem xw_fill {i j : Nat} {s : Int32} {a t lb wb : Nat → Int32} {post : Int32 → Prop} (ok : ta_Ok t) (hi : i < 10) (hj : j < 10) (h : post (nI (tv_f (ta_T t) i j))) : wpX_isFilled post (s, a, t, lb, wb) (nI i) (nI j) := by
  have e : nI i * 10 + nI j = nI (i * 10 + j) := by
    show nI i * nI 10 + nI j = _
    rw [pk_mul, nI_add]
  have v := ta_val ok hi hj
  unfold wpX_isFilled
  dsimp only
  rw [e, nI_clamp (by omega), v.1]
  refine ⟨vp_in_nI (by omega) (by omega), pk_eq (ta_T t i j) 100 (fun h1 => ?_) (fun h1 => ?_)⟩
  · have z : tv_f (ta_T t) i j = 0 := if_neg (by omega)
    rw [z] at h
    exact h
  · have z : tv_f (ta_T t) i j = 1 := if_pos (by omega)
    rw [z] at h
    exact h
theorem tv_01 (t : Nat → Nat → Nat) (i j : Nat) : tv_f t i j = 0 ∨ tv_f t i j = 1 := by
  have := tv_f1 t i j
  omega
theorem xw_row {i k b : Nat} {s : Int32} {a t lb wb : Nat → Int32} {post : Int32 → Prop} {J : Int32 → Int32 → Prop} (ok : ta_Ok t) (hi : i < 10) (hb : b < 2 ^ 31) (m : Nat) (x1 : Int32) (HJ : J (nI (m + sm_s (fun c => tv_f (ta_T t) i c) (min b 10))) (nI (i + 1))) : ∀ d j, j + d = min b 10 → wX_filledCells_21 post J x1 (nI b) (nI i) s a t lb wb (d + 1) (nI (m + sm_s (fun c => tv_f (ta_T t) i c) j)) (nI j) := by
  have h10 := Nat.min_le_right b 10
  have hbb := Nat.min_le_left b 10
  intro d
  induction d with
  | zero =>
    intro j hj
    have e : j = min b 10 := hj
    rw [e]
    by_cases h : b ≤ 10
    · exact br_t (nI_le (by omega) (by omega)) (nm_r (nI_1 i) HJ)
    · exact br_f (nI_ge (by omega) (by omega)) (br_t (nI_le (a := 10) (by omega) (by omega)) (nm_r (nI_1 i) HJ))
  | succ d ih =>
    intro j hj
    refine br_f (nI_ge (by omega) (by omega)) (br_f (nI_ge (b := 10) (by omega) (by omega)) ?_)
    refine xw_fill ok hi (by omega) ?_
    have h := ih (j + 1) (by omega)
    rw [sm_s] at h
    rcases tv_01 (ta_T t) i j with z | z
    · rw [z] at h ⊢
      exact br_t rfl (nm_r (nI_1 j) h)
    · rw [z] at h ⊢
      exact br_f (by decide) (nm_r (nI_1 _) (nm_r (nI_1 j) h))
theorem xw_cells {k b : Nat} {s : Int32} {a t lb wb : Nat → Int32} {post : Int32 → Prop} (ok : ta_Ok t) (hk : k < 2 ^ 31) (hb : b < 2 ^ 31) (h : post (nI (tv_fc (ta_T t) (min k 10) (min b 10)))) : wpX_filledCells post (s, a, t, lb, wb) (nI k) (nI b) := by
  have h10 := Nat.min_le_right k 10
  have hkk := Nat.min_le_left k 10
  have L : ∀ d i, i + d = min k 10 → wX_filledCells_5 post (nI k) (nI b) s a t lb wb (d + 1) (nI (tv_fc (ta_T t) i (min b 10))) (nI i) := by
    intro d
    induction d with
    | zero =>
      intro i hi
      have e : i = min k 10 := hi
      rw [e]
      by_cases h2 : k ≤ 10
      · exact br_t (nI_le (by omega) (by omega)) h
      · exact br_f (nI_ge (by omega) (by omega)) (br_t (nI_le (a := 10) (by omega) (by omega)) h)
    | succ d ih =>
      intro i hi
      refine br_f (nI_ge (by omega) (by omega)) (br_f (nI_ge (b := 10) (by omega) (by omega)) ⟨min b 10 + 1, ?_⟩)
      exact xw_row (k := k) ok (by omega) hb (tv_fc (ta_T t) i (min b 10)) (nI k) (ih (i + 1) (by omega)) (min b 10) 0 (by omega)
  exact ⟨min k 10 + 1, L (min k 10) 0 (by omega)⟩
end
end
section
section
theorem yw_int {p i : Nat} {s : Int32} {a be sh we wy : Nat → Int32} {post : Int32 → Prop} (hp : p < 2 ^ 31) (hi : i < 32) (b : p.testBit i = true) (h : post 1) : wpY_in post (s, a, be, sh, we, wy) (nI p) (nI i) := by
  refine br_t ?_ h
  rw [yb_bit hp hi, if_pos b]
  rfl
theorem yw_inf {p i : Nat} {s : Int32} {a be sh we wy : Nat → Int32} {post : Int32 → Prop} (hp : p < 2 ^ 31) (hi : i < 32) (b : ¬ p.testBit i = true) (h : post 0) : wpY_in post (s, a, be, sh, we, wy) (nI p) (nI i) := by
  refine br_f ?_ h
  rw [yb_bit hp hi, if_neg b]
  decide
theorem yw_size {p : Nat} {s : Int32} {a be sh we wy : Nat → Int32} {post : Int32 → Prop} (hp : p < 2 ^ 31) (h : post (nI (sm_s (fun i => if p.testBit i = true then 1 else 0) 10))) : wpY_size post (s, a, be, sh, we, wy) (nI p) := by
  have L : ∀ d i, i + d = 10 → wY_size_4 post (nI p) s a be sh we wy (d + 1) (nI (sm_s (fun i => if p.testBit i = true then 1 else 0) i)) (nI i) := by
    intro d
    induction d with
    | zero =>
      intro i hi
      have e : i = 10 := hi
      rw [e]
      exact br_t (nI_le (a := 10) (b := 10) (by omega) (by omega)) h
    | succ d ih =>
      intro i hi
      refine br_f (nI_ge (b := 10) (by omega) (by omega)) (nm_r (e' := nI (sm_s (fun i => if p.testBit i = true then 1 else 0) (i + 1))) ?_ (nm_r (nI_1 i) (ih (i + 1) (by omega))))
      rw [yb_bit hp (by omega), nI_add]
      rfl
  exact ⟨11, L 10 0 (by omega)⟩
/-- chains of the reference's run: rising for 0, falling for 1 -/
def rn_R (fl : Nat) : Nat → Nat → Prop := fun x y => if fl = 0 then x < y else y < x
theorem rn_R0 : rn_R 0 = fun a b => a < b := by funext a b; exact if_pos rfl
theorem rn_R1 : rn_R 1 = fun a b => b < a := by funext a b; exact if_neg (by decide)
theorem rn_Rt (fl : Nat) : ∀ a b c, rn_R fl a b → rn_R fl b c → rn_R fl a c := by
  intro a b c h1 h2
  unfold rn_R at *
  by_cases e : fl = 0
  · rw [if_pos e] at *; omega
  · rw [if_neg e] at *; omega
theorem rn_Eb {R : Nat → Nat → Prop} {f : Nat → Nat} {b : Nat → Bool} {i m : Nat} (h : rn_E R f b i m) : m ≤ i + 1 := by
  obtain ⟨_, C, h1, _, h3⟩ := h
  have h4 := h1.length_le
  have h5 := sl_lenle f b i
  omega
theorem rn_Vb {R : Nat → Nat → Prop} {f : Nat → Nat} {b : Nat → Bool} {i v : Nat} (h : rn_V R f b i v) : v ≤ i + 1 := by
  by_cases e : b i = true
  · exact rn_Eb (h.1 e).1
  · rw [h.2 e]; omega
theorem rn_Jb {R : Nat → Nat → Prop} {f : Nat → Nat} {b : Nat → Bool} {i : Nat} {be : Nat → Nat} {j v : Nat} (h : rn_J R f b i be j v) : v ≤ i + 1 := by
  by_cases e : b i = true
  · exact rn_Eb (h.1 e).1
  · rw [h.2 e]; omega
theorem rn_Mb {R : Nat → Nat → Prop} {f : Nat → Nat} {b : Nat → Bool} {n M : Nat} (h : rn_M R f b n M) : M ≤ n := by
  obtain ⟨C, c1, _, c3⟩ := h.2
  have h4 := c1.length_le
  have h5 := sl_lenle f b n
  omega
def rn_A (R : Nat → Nat → Prop) (f : Nat → Nat) (b : Nat → Bool) (i : Nat) (be : Nat → Int32) : Prop := ∀ q, q < i → be q = nI (rl_f be q) ∧ rn_V R f b q (rl_f be q)
theorem rn_As {R : Nat → Nat → Prop} {f : Nat → Nat} {b : Nat → Bool} {i v : Nat} {be : Nat → Int32} (h : rn_A R f b i be) (V : rn_V R f b i v) (hi : i ≤ 10) : rn_A R f b (i + 1) (upd be i (nI v)) := by
  have hv := rn_Vb V
  intro q hq
  by_cases e : q = i
  · have e2 : rl_f (upd be i (nI v)) q = v := by
      unfold rl_f
      rw [e, pk_us, nI_clamp (by omega)]
    rw [e2, e, pk_us]
    exact ⟨rfl, V⟩
  · have e2 : rl_f (upd be i (nI v)) q = rl_f be q := by
      unfold rl_f
      rw [pk_un e]
    rw [e2, pk_un e]
    exact h q (by omega)
theorem rl_uu (f : Nat → Int32) (k : Nat) (x y : Int32) : upd (upd f k x) k y = upd f k y := by
  funext j
  unfold upd
  by_cases e : j = k
  · rw [if_pos e, if_pos e]
  · rw [if_neg e, if_neg e, if_neg e]
theorem yw_118 {post : Int32 → SY → Prop} {J5 : Int32 → Int32 → (Nat → Int32) → (Nat → Int32) → (Nat → Int32) → (Nat → Int32) → (Nat → Int32) → Prop} {J46 : Int32 → (Nat → Int32) → (Nat → Int32) → (Nat → Int32) → (Nat → Int32) → (Nat → Int32) → Prop} {x1 x2 x3 x4 s : Int32} {a be sh we wy : Nat → Int32} {j : Nat} (h : J46 (nI (j + 1)) a be sh we wy) : wY_run_118 post J5 J46 x1 x2 x3 x4 (nI j) s a be sh we wy :=
  br_t rfl (nm_r (nI_1 j) h)
theorem yw_114 {post : Int32 → SY → Prop} {J5 : Int32 → Int32 → (Nat → Int32) → (Nat → Int32) → (Nat → Int32) → (Nat → Int32) → (Nat → Int32) → Prop} {J46 : Int32 → (Nat → Int32) → (Nat → Int32) → (Nat → Int32) → (Nat → Int32) → (Nat → Int32) → Prop} {x1 x2 x3 s : Int32} {a be sh we wy : Nat → Int32} {i j v w : Nat} (hi : i < 10) (hj : j < i) (hb : be j = nI w) (hw : w ≤ 10) (hv : v ≤ 11) (h1 : w + 1 ≤ v → J46 (nI (j + 1)) a (upd be i (nI v)) sh we wy) (h2 : v < w + 1 → J46 (nI (j + 1)) a (upd be i (nI (w + 1))) sh we wy) : wY_run_114 post J5 J46 x1 x2 x3 (nI i) (nI j) s a (upd be i (nI v)) sh we wy := by
  have e1 : upd be i (nI v) (nI j).toNatClampNeg + 1 = nI (w + 1) := by rw [nI_clamp (by omega), pk_un (by omega), hb, nI_1]
  have e2 : upd be i (nI v) (nI i).toNatClampNeg = nI v := by rw [nI_clamp (by omega), pk_us]
  refine br_f (by decide) ⟨vp_in_nI (by omega) (by omega), vp_in_nI (by omega) (by omega), pk_le (w + 1) v (fun h => nm_r (nI_1 j) (h1 h)) (fun h => ⟨vp_in_nI (by omega) (by omega), vp_in_nI (by omega) (by omega), nm_r (e' := upd be i (nI (w + 1))) ?_ (nm_r (nI_1 j) (h2 h))⟩) e1 e2 (by omega) (by omega)⟩
  rw [e1, nI_clamp (by omega), rl_uu]
theorem yw_rin {n p fl M i : Nat} {a be sh we wy : Nat → Int32} (ok : rl_Ok n a) (hp : p < 2 ^ 31) (hfl : fl < 2) (hi : i < n) (hM : M ≤ 10) (A : rn_A (rn_R fl) (rl_f a) p.testBit i be) {post : Int32 → SY → Prop} {J : Int32 → Int32 → (Nat → Int32) → (Nat → Int32) → (Nat → Int32) → (Nat → Int32) → (Nat → Int32) → Prop} (HJ : ∀ v, rn_V (rn_R fl) (rl_f a) p.testBit i v → J (nI (if M < v then v else M)) (nI (i + 1)) a (upd be i (nI v)) sh we wy) : ∀ d j v, j + d = i → rn_J (rn_R fl) (rl_f a) p.testBit i (rl_f be) j v → wY_run_46 post J (nI p) (nI fl) (nI M) (nI i) (nI n) (d + 1) (nI j) a (upd be i (nI v)) sh we wy := by
  have hn := ok.1
  intro d
  induction d with
  | zero =>
    intro j v hj K
    have e : j = i := hj
    rw [e] at K
    rw [e]
    have V := rn_Je K (fun q hq => (A q hq).2)
    have hv := rn_Vb V
    have h := HJ v V
    have e2 : upd be i (nI v) (nI i).toNatClampNeg = nI v := by rw [nI_clamp (by omega), pk_us]
    refine br_t (nI_le (by omega) (by omega)) ⟨vp_in_nI (by omega) (by omega), pk_le v M (fun hle => nm_r (nI_1 i) ?_) (fun hlt => ⟨vp_in_nI (by omega) (by omega), nm_r (e' := nI v) e2 (nm_r (nI_1 i) ?_)⟩) e2 rfl (by omega) (by omega)⟩
    · rw [if_neg (by omega)] at h; exact h
    · rw [if_pos hlt] at h; exact h
  | succ d ih =>
    intro j v hj K
    have hji : j < i := by omega
    have hv := rn_Jb K
    have Aj := A j hji
    have hbj := rn_Vb Aj.2
    have ej : a (nI j).toNatClampNeg = nI (rl_f a j) := by rw [nI_clamp (by omega)]; exact (rl_val ok (by omega)).1
    have ei : a (nI i).toNatClampNeg = nI (rl_f a i) := by rw [nI_clamp (by omega)]; exact (rl_val ok hi).1
    have bj := (rl_val ok (by omega : j < n)).2
    have bi := (rl_val ok hi).2
    have skip : ¬ (p.testBit i = true ∧ p.testBit j = true ∧ rn_R fl (rl_f a j) (rl_f a i)) → wY_run_46 post J (nI p) (nI fl) (nI M) (nI i) (nI n) (d + 1) (nI (j + 1)) a (upd be i (nI v)) sh we wy := fun hno => ih (j + 1) v (by omega) (rn_Jk K (fun b1 b2 r => absurd ⟨b1, b2, r⟩ hno))
    refine br_f (nI_ge (by omega) (by omega)) ?_
    by_cases ti : p.testBit i = true
    · refine yw_int hp (by omega) ti (br_f (by decide) ?_)
      by_cases tj : p.testBit j = true
      · refine yw_int hp (by omega) tj (br_f (by decide) ?_)
        have go : rn_R fl (rl_f a j) (rl_f a i) → wY_run_114 post J (wY_run_46 post J (nI p) (nI fl) (nI M) (nI i) (nI n) (d + 1)) (nI p) (nI fl) (nI M) (nI i) (nI j) (nI n) a (upd be i (nI v)) sh we wy := by
          intro r
          refine yw_114 (by omega) hji Aj.1 (by omega) (by omega) ?_ ?_
          · intro hle
            exact ih (j + 1) v (by omega) (rn_Jk K (fun _ _ _ => hle))
          · intro hlt
            exact ih (j + 1) _ (by omega) (rn_Jt (rn_Rt fl) K hji Aj.2 ti tj r hlt)
        have cs : fl = 0 ∨ fl = 1 := by omega
        rcases cs with rfl | rfl
        · refine br_t rfl ⟨vp_in_nI (by omega) (by omega), vp_in_nI (by omega) (by omega), pk_le (rl_f a i) (rl_f a j) (fun h => yw_118 (skip ?_)) (fun h => go ?_) ei ej (by omega) (by omega)⟩
          · rw [rn_R0]; omega
          · rw [rn_R0]; exact h
        · refine br_f (by decide) ⟨vp_in_nI (by omega) (by omega), vp_in_nI (by omega) (by omega), pk_le (rl_f a j) (rl_f a i) (fun h => yw_118 (skip ?_)) (fun h => go ?_) ej ei (by omega) (by omega)⟩
          · rw [rn_R1]; omega
          · rw [rn_R1]; exact h
      · exact yw_inf hp (by omega) tj (br_t rfl (yw_118 (skip (fun h => tj h.2.1))))
    · exact yw_inf hp (by omega) ti (br_t rfl (yw_118 (skip (fun h => ti h.1))))
theorem yw_run {n p fl : Nat} {a be sh we wy : Nat → Int32} (ok : rl_Ok n a) (hp : p < 2 ^ 31) (hfl : fl < 2) {post : Int32 → SY → Prop} (H : ∀ M be', rn_M (rn_R fl) (rl_f a) p.testBit n M → post (nI M) (nI n, a, be', sh, we, wy)) : wpY_run post (nI n, a, be, sh, we, wy) (nI p) (nI fl) := by
  have hn := ok.1
  have L : ∀ d i M be, i + d = n → rn_A (rn_R fl) (rl_f a) p.testBit i be → rn_M (rn_R fl) (rl_f a) p.testBit i M → wY_run_5 post (nI p) (nI fl) (nI n) (d + 1) (nI M) (nI i) a be sh we wy := by
    intro d
    induction d with
    | zero =>
      intro i M be hi A K
      have e : i = n := hi
      rw [e] at K
      rw [e]
      exact br_t (nI_le (by omega) (by omega)) (H M be K)
    | succ d ih =>
      intro i M be hi A K
      have hM := rn_Mb K
      refine br_f (nI_ge (by omega) (by omega)) (br_f (nI_ge (b := 10) (by omega) (by omega)) ?_)
      have J0 := rn_J0 (R := rn_R fl) (f := rl_f a) (b := p.testBit) (i := i) (be := rl_f be)
      have HJ : ∀ v, rn_V (rn_R fl) (rl_f a) p.testBit i v → wY_run_5 post (nI p) (nI fl) (nI n) (d + 1) (nI (if M < v then v else M)) (nI (i + 1)) a (upd be i (nI v)) sh we wy := fun v V => ih (i + 1) _ _ (by omega) (rn_As A V (by omega)) (rn_Ms K V)
      by_cases ti : p.testBit i = true
      · rw [if_pos ti] at J0
        refine yw_int hp (by omega) ti (br_f (by decide) ⟨vp_in_nI (by omega) (by omega), nm_r (e' := upd be i (nI 1)) (by rw [nI_clamp (by omega)]; rfl) ⟨i + 1, ?_⟩⟩)
        exact yw_rin ok hp hfl (by omega) (by omega) A HJ i 0 1 (by omega) J0
      · rw [if_neg ti] at J0
        refine yw_inf hp (by omega) ti (br_t rfl ⟨vp_in_nI (by omega) (by omega), nm_r (e' := upd be i (nI 0)) (by rw [nI_clamp (by omega)]; rfl) ⟨i + 1, ?_⟩⟩)
        exact yw_rin ok hp hfl (by omega) (by omega) A HJ i 0 0 (by omega) J0
  exact ⟨n + 1, L n 0 0 be (by omega) (fun q hq => absurd hq (by omega)) rn_M0⟩
theorem gt_Jb {R : Nat → Nat → Prop} {k : Nat} {f : Nat → Nat} {wi : Nat → Bool} {n p M : Nat} (h : gt_J R k f wi n p M) : M ≤ n := by
  rcases h.2 with z | ⟨q, _, e⟩
  · omega
  · rw [← e]; exact sl_lenle _ _ _
theorem yw_gr {n w k fl : Nat} {a be sh we wy : Nat → Int32} (ok : rl_Ok n a) (hw : w < 2 ^ 31) (hk : k < 2 ^ 31) (hfl : fl < 2) {post : Int32 → SY → Prop} (H : ∀ M be', gr_M (rn_R fl) k (sl_l (rl_f a) w.testBit n) M → post (nI M) (nI n, a, be', sh, we, wy)) : wpY_greatest post (nI n, a, be, sh, we, wy) (nI w) (nI k) (nI fl) := by
  have hn := ok.1
  have h2n := yb_p10 hn
  have e1 : (1 : Int32) <<< (nI n &&& 31) = nI (2 ^ n) := yb_one (by omega)
  have L : ∀ d p M be, p + d = 2 ^ n → gt_J (rn_R fl) k (rl_f a) w.testBit n p M → wY_greatest_6 post (nI w) (nI k) (nI fl) (d + 1) (nI M) (nI p) (nI n) a be sh we wy := by
    intro d
    induction d with
    | zero =>
      intro p M be hp K
      have e : p = 2 ^ n := hp
      rw [e] at K
      rw [e]
      refine br_t ?_ (H M be (gt_Je K))
      rw [e1]
      exact nI_le (by omega) (by omega)
    | succ d ih =>
      intro p M be hp K
      have hM := gt_Jb K
      have hp2 : p < 2 ^ n := by omega
      have ez := yb_size (f := rl_f a) hn hp2
      have hz := sl_lenle (rl_f a) p.testBit n
      refine br_f ?_ ?_
      · rw [e1]; exact nI_ge (by omega) (by omega)
      · by_cases sub : p &&& w = p
        · refine br_t (by rw [nx_and, sub]) ?_
          refine yw_size (by omega) ?_
          rw [ez]
          refine pk_le (sl_l (rl_f a) p.testBit n).length M (fun h => nm_r (nI_1 p) (ih (p + 1) M be (by omega) (gt_Jf K (fun _ => h)))) (fun h => ?_)
          refine yw_run ok (by omega) hfl (fun N be' hN => ?_)
          have hNb := rn_Mb hN
          refine pk_lt k N (fun h2 => nm_r (nI_1 p) (ih (p + 1) M be' (by omega) (gt_Jf K (fun o => absurd ((rn_le hN).mpr o.2) (by omega))))) (fun h2 => ?_)
          refine yw_size (by omega) ?_
          rw [ez]
          exact nm_r (nI_1 p) (ih (p + 1) _ be' (by omega) (gt_Jt K ⟨(yb_sub hp2).mp sub, (rn_le hN).mp h2⟩ h))
        · refine br_f ?_ (nm_r (nI_1 p) (ih (p + 1) M be (by omega) (gt_Jf K (fun o => absurd ((yb_sub hp2).mpr o.1) sub))))
          have := Nat.and_le_left (n := p) (m := w)
          rw [nx_and, nI_eq (by omega) (by omega)]
          exact sub
  exact ⟨2 ^ n + 1, L (2 ^ n) 0 0 be (by omega) gt_J0⟩
end
end
section
section
theorem yw_whole {n : Nat} {a be sh we wy : Nat → Int32} {post : Int32 → Prop} (hn : n ≤ 10) (h : post (nI (2 ^ n - 1))) : wpY_whole post (nI n, a, be, sh, we, wy) := by
  have e1 : (1 : Int32) <<< (nI n &&& 31) = nI (2 ^ n) := yb_one (by omega)
  have e2 : nI (2 ^ n) - 1 = nI (2 ^ n - 1) := pk_sub (b := 1) (Nat.two_pow_pos n)
  unfold wpY_whole
  dsimp only
  rw [e1, e2]
  exact h
theorem mt_tr (f : Nat → Nat) {c : Nat} : ∀ d, sl_l f (2 ^ c - 1).testBit (c + d) = sl_l f (fun _ => true) c := by
  intro d
  induction d with
  | zero => exact sl_congr c (fun i hi => ⟨by rw [yb_all]; simpa using hi, rfl⟩)
  | succ d ih =>
    show sl_l f (2 ^ c - 1).testBit (c + d + 1) = _
    rw [sl_f, ih]
    rw [yb_all, decide_eq_true_eq]
    omega
theorem mt_99 {n c : Nat} {a : Nat → Int32} (ok : rl_Ok n a) (hc : c ≤ n) : sl_l (rl_f a) (fun _ => true) c = mt_w a 99 c := by
  refine sl_congr c (fun i hi => ⟨?_, rfl⟩)
  have v := rl_val ok (by omega : i < n)
  have h : a i ≤ 99 := by
    rw [v.1]
    exact nI_le (b := 99) (by omega) (by omega)
  simpa using h
theorem mt_all {n c : Nat} {a : Nat → Int32} (ok : rl_Ok n a) (hc : c ≤ n) : sl_l (rl_f a) (2 ^ c - 1).testBit n = mt_w a 99 c := by
  have h := mt_tr (rl_f a) (c := c) (n - c)
  rw [show c + (n - c) = n by omega] at h
  rw [h, mt_99 ok hc]
theorem i_vc_rise {k : Nat} {u : SX} {v : SY} (I : i_Rel k u v) (hk : k + 3 ≤ 1536) (v1 : Int32) : wpX_rise (fun r u' => wpY_rise (fun r' v' => r' = r ∧ i_Rel (k + 3) u' v') v v1) u v1 := by
  obtain ⟨n, a, t, lb, wb, be, sh, we, wy, rfl, rfl, ok⟩ := I
  have hn := ok.1
  have h2n := yb_p10 hn
  by_cases h0 : 0 ≤ v1
  · obtain ⟨kk, hkk, rfl⟩ := nI_of (Int32.not_lt.mpr h0)
    refine br_t h0 ?_
    refine xw_make ok (Nat.le_refl n) (fun t' B => ?_)
    refine xw_cells (b := 10) B.1 hkk (by omega) ?_
    unfold wpY_rise
    dsimp only
    refine yw_whole hn (br_t h0 ?_)
    refine yw_gr (fl := 1) ok (by omega) hkk (by omega) (fun M be' hM => ⟨?_, rl_mk ok⟩)
    rw [rn_R1, mt_all ok (Nat.le_refl n)] at hM
    rw [gr_Mu hM (tv_rise B.2.1 B.2.2 kk), Nat.min_self]
  · refine br_f h0 ?_
    unfold wpY_rise
    dsimp only
    exact yw_whole hn (br_f h0 ⟨rfl, rl_mk ok⟩)
theorem i_vc_fall {k : Nat} {u : SX} {v : SY} (I : i_Rel k u v) (hk : k + 3 ≤ 1536) (v1 : Int32) : wpX_fall (fun r u' => wpY_fall (fun r' v' => r' = r ∧ i_Rel (k + 3) u' v') v v1) u v1 := by
  obtain ⟨n, a, t, lb, wb, be, sh, we, wy, rfl, rfl, ok⟩ := I
  have hn := ok.1
  have h2n := yb_p10 hn
  by_cases h0 : 0 ≤ v1
  · obtain ⟨kk, hkk, rfl⟩ := nI_of (Int32.not_lt.mpr h0)
    refine br_t h0 ?_
    refine xw_make ok (Nat.le_refl n) (fun t' B => ?_)
    refine xw_cells (k := 10) B.1 (by omega) hkk ?_
    unfold wpY_fall
    dsimp only
    refine yw_whole hn (br_t h0 ?_)
    refine yw_gr (fl := 0) ok (by omega) hkk (by omega) (fun M be' hM => ⟨?_, rl_mk ok⟩)
    rw [rn_R0, mt_all ok (Nat.le_refl n)] at hM
    rw [gr_Mu hM (tv_fall B.2.1 B.2.2 kk), Nat.min_self]
  · refine br_f h0 ?_
    unfold wpY_fall
    dsimp only
    exact yw_whole hn (br_f h0 ⟨rfl, rl_mk ok⟩)
theorem i_vc_riseOfFirst {k : Nat} {u : SX} {v : SY} (I : i_Rel k u v) (hk : k + 3 ≤ 1536) (v1 : Int32) (v2 : Int32) : wpX_riseOfFirst (fun r u' => wpY_riseOfFirst (fun r' v' => r' = r ∧ i_Rel (k + 3) u' v') v v1 v2) u v1 v2 := by
  obtain ⟨n, a, t, lb, wb, be, sh, we, wy, rfl, rfl, ok⟩ := I
  have hn := ok.1
  by_cases h1 : v1 < 0
  · exact br_t h1 (br_t h1 ⟨rfl, rl_mk ok⟩)
  · by_cases h2 : v1 ≤ nI n
    · refine br_f h1 (br_t h2 ?_)
      by_cases h0 : 0 ≤ v2
      · obtain ⟨c, hc, rfl⟩ := nI_of h1
        obtain ⟨kk, hkk, rfl⟩ := nI_of (Int32.not_lt.mpr h0)
        have hcn : c ≤ n := (nI_leI hc (by omega)).mp h2
        have h2c := yb_p10 (by omega : c ≤ 10)
        have e1 : (1 : Int32) <<< (nI c &&& 31) = nI (2 ^ c) := yb_one (by omega)
        have e2 : nI (2 ^ c) - 1 = nI (2 ^ c - 1) := pk_sub (b := 1) (Nat.two_pow_pos c)
        refine br_t h0 ?_
        refine xw_make ok hcn (fun t' B => ?_)
        refine xw_cells (b := 10) B.1 hkk (by omega) ?_
        refine br_f h1 (br_t h2 (br_t h0 ?_))
        rw [e1, e2]
        refine yw_gr (fl := 1) ok (by omega) hkk (by omega) (fun M be' hM => ⟨?_, rl_mk ok⟩)
        rw [rn_R1, mt_all ok hcn] at hM
        rw [gr_Mu hM (tv_rise B.2.1 B.2.2 kk), Nat.min_self]
      · exact br_f h0 (br_f h1 (br_t h2 (br_f h0 ⟨rfl, rl_mk ok⟩)))
    · exact br_f h1 (br_f h2 (br_f h1 (br_f h2 ⟨rfl, rl_mk ok⟩)))
theorem i_vc_riseUpTo {k : Nat} {u : SX} {v : SY} (I : i_Rel k u v) (hk : k + 3 ≤ 1536) (v1 : Int32) (v2 : Int32) : wpX_riseUpTo (fun r u' => wpY_riseUpTo (fun r' v' => r' = r ∧ i_Rel (k + 3) u' v') v v1 v2) u v1 v2 := by
  obtain ⟨n, a, t, lb, wb, be, sh, we, wy, rfl, rfl, ok⟩ := I
  have hn := ok.1
  have h2n := yb_p10 hn
  by_cases h0 : 0 ≤ v2
  · obtain ⟨kk, hkk, rfl⟩ := nI_of (Int32.not_lt.mpr h0)
    refine br_t h0 ?_
    refine xw_make ok (Nat.le_refl n) (fun t' B => ?_)
    refine xw_cells (b := 10) B.1 hkk (by omega) ?_
    refine br_t h0 ?_
    have L : ∀ (post : Int32 → SY → Prop), (∀ W, W < 2 ^ n → (∀ q, W.testBit q = (decide (q < n) && decide (a q ≤ v1))) → wpY_greatest post (nI n, a, be, sh, we, wy) (nI W) (nI kk) (nI 1)) → ∀ d i W, i + d = n → W < 2 ^ i → (∀ q, W.testBit q = (decide (q < i) && decide (a q ≤ v1))) → wY_riseUpTo_11 post v1 (nI kk) (nI n) a be sh we wy (d + 1) (nI W) (nI i) := by
      intro post H d
      induction d with
      | zero =>
        intro i W hi hW hq
        have e : i = n := hi
        rw [e] at hW hq
        rw [e]
        exact br_t (nI_le (by omega) (by omega)) (H W hW hq)
      | succ d ih =>
        intro i W hi hW hq
        have hai : a (nI i).toNatClampNeg = a i := by rw [nI_clamp (by omega)]
        have h2i := yb_p10 (by omega : i ≤ 10)
        refine br_f (nI_ge (by omega) (by omega)) (br_f (nI_ge (b := 10) (by omega) (by omega)) ⟨vp_in_nI (by omega) (by omega), ?_⟩)
        rw [hai]
        by_cases hb : v1 < a i
        · have h := yb_wn (c := fun q => decide (a q ≤ v1)) hW hq (by rw [decide_eq_true_eq]; exact Int32.not_le.mpr hb)
          exact br_t hb (nm_r (nI_1 i) (ih (i + 1) W (by omega) h.1 h.2))
        · have h := yb_wi (c := fun q => decide (a q ≤ v1)) hW hq (by rw [decide_eq_true_eq]; exact Int32.not_lt.mp hb)
          refine br_f hb (nm_r (e' := nI (W ||| 2 ^ i)) ?_ (nm_r (nI_1 i) (ih (i + 1) _ (by omega) h.1 h.2)))
          rw [yb_one (by omega), yb_or]
    refine ⟨n + 1, L _ (fun W hW hq => ?_) n 0 0 (by omega) (by omega) (fun q => ?_)⟩
    · refine yw_gr (fl := 1) ok (by omega) hkk (by omega) (fun M be' hM => ⟨?_, rl_mk ok⟩)
      have e : sl_l (rl_f a) W.testBit n = mt_w a v1 n := sl_congr n (fun i hi => ⟨by rw [hq]; simp [hi], rfl⟩)
      rw [rn_R1, e] at hM
      rw [gr_Mu hM (tv_rise B.2.1 B.2.2 kk), Nat.min_self]
    · simp
  · exact br_f h0 (br_f h0 ⟨rfl, rl_mk ok⟩)
theorem i_vc_rises {k : Nat} {u : SX} {v : SY} (I : i_Rel k u v) (hk : k + 3 ≤ 1536) : wpX_rises (fun r u' => wpY_rises (fun r' v' => r' = r ∧ i_Rel (k + 3) u' v') v) u := by
  obtain ⟨n, a, t, lb, wb, be, sh, we, wy, rfl, rfl, ok⟩ := I
  have hn := ok.1
  have h2n := yb_p10 hn
  unfold wpX_rises
  dsimp only
  refine xw_make ok (Nat.le_refl n) (fun t' B => ?_)
  refine xw_cells (k := 10) (b := 1) B.1 (by omega) (by omega) ?_
  unfold wpY_rises
  dsimp only
  refine yw_whole hn ?_
  refine yw_run (fl := 1) ok (by omega) (by omega) (fun M be' hM => ⟨?_, rl_mk ok⟩)
  rw [rn_R1] at hM
  have h := rn_rises (sl_nd (rl_inj ok)) hM
  rw [mt_all ok (Nat.le_refl n)] at h
  rw [gr_Mu h (tv_fall B.2.1 B.2.2 1), Nat.min_self]
theorem i_vc_falls {k : Nat} {u : SX} {v : SY} (I : i_Rel k u v) (hk : k + 3 ≤ 1536) : wpX_falls (fun r u' => wpY_falls (fun r' v' => r' = r ∧ i_Rel (k + 3) u' v') v) u := by
  obtain ⟨n, a, t, lb, wb, be, sh, we, wy, rfl, rfl, ok⟩ := I
  have hn := ok.1
  have h2n := yb_p10 hn
  unfold wpX_falls
  dsimp only
  refine xw_make ok (Nat.le_refl n) (fun t' B => ?_)
  refine xw_cells (k := 1) (b := 10) B.1 (by omega) (by omega) ?_
  unfold wpY_falls
  dsimp only
  refine yw_whole hn ?_
  refine yw_run (fl := 0) ok (by omega) (by omega) (fun M be' hM => ⟨?_, rl_mk ok⟩)
  rw [rn_R0] at hM
  have h := rn_falls (sl_nd (rl_inj ok)) hM
  rw [mt_all ok (Nat.le_refl n)] at h
  rw [gr_Mu h (tv_rise B.2.1 B.2.2 1), Nat.min_self]
end
end
section
section
def lz_A (f : Nat → Nat) (e : Nat) (lb wb : Nat → Int32) : Prop := ∀ q, q < e → ∃ lo w : Nat, lb q = nI lo ∧ wb q = nI w ∧ lr_D f q (f q) lo w
theorem xw_clb {n e L : Nat} {a t lb wb : Nat → Int32} (ok : rl_Ok n a) (he : e ≤ n) (hL : L ≤ 100) (A : lz_A (rl_f a) e lb wb) {post : SX → Prop} (H : ∀ lo w, lr_D (rl_f a) e L lo w → post (nI n, a, t, upd lb e (nI lo), upd wb e (nI w))) : wpX_countLongestBefore post (nI n, a, t, lb, wb) (nI e) (nI L) := by
  have hn := ok.1
  have LP : ∀ d l lo w, l + d = e → lr_D (rl_f a) l L lo w → wX_countLongestBefore_8 post (nI e) (nI L) (nI n) a t lb wb (d + 1) (nI lo) (nI w) (nI l) := by
    intro d
    induction d with
    | zero =>
      intro l lo w hl D
      have e1 : l = e := hl
      rw [e1] at D
      rw [e1]
      exact br_t (nI_le (by omega) (by omega)) ⟨vp_in_nI (by omega) (by omega), nm_r (e' := upd lb e (nI lo)) (by rw [nI_clamp (by omega)]) ⟨vp_in_nI (by omega) (by omega), nm_r (e' := upd wb e (nI w)) (by rw [nI_clamp (by omega)]) (H lo w D)⟩⟩
    | succ d ih =>
      intro l lo w hl D
      have v := rl_val ok (by omega : l < n)
      have ea : a (nI l).toNatClampNeg = nI (rl_f a l) := by rw [nI_clamp (by omega)]; exact v.1
      obtain ⟨p, q, ep, eq, D2⟩ := A l (by omega)
      have el : lb (nI l).toNatClampNeg + 1 = nI (p + 1) := by rw [nI_clamp (by omega), ep, nI_1]
      have ew : wb (nI l).toNatClampNeg = nI q := by rw [nI_clamp (by omega), eq]
      have b1 := lr_Dlo D
      have b2 := lr_Dlo D2
      refine br_f (nI_ge (by omega) (by omega)) ⟨vp_in_nI (by omega) (by omega), pk_le L (rl_f a l) (fun h => nm_r (nI_1 l) (ih (l + 1) lo w (by omega) (lr_Dn D (by omega)))) (fun h => ⟨vp_in_nI (by omega) (by omega), nm_r el (pk_le (p + 1) lo (fun h2 => pk_eq (p + 1) lo (fun h3 => ⟨vp_in_nI (by omega) (by omega), nm_r (e' := nI (w + q)) (by rw [ew, nI_add]) (nm_r (nI_1 l) (ih (l + 1) lo (w + q) (by omega) (lr_De D h D2 h3.symm)))⟩) (fun h3 => nm_r (nI_1 l) (ih (l + 1) lo w (by omega) (lr_Dl D h D2 (by omega))))) (fun h2 => ⟨vp_in_nI (by omega) (by omega), nm_r ew (nm_r (nI_1 l) (ih (l + 1) (p + 1) q (by omega) (lr_Dg D h D2 h2)))⟩))⟩) rfl ea (by omega) (by omega)⟩
  exact ⟨e + 1, LP e 0 0 1 (by omega) (lr_D0 _ _)⟩
theorem lz_s {f : Nat → Nat} {e lo w : Nat} {lb wb : Nat → Int32} (A : lz_A f e lb wb) (D : lr_D f e (f e) lo w) : lz_A f (e + 1) (upd lb e (nI lo)) (upd wb e (nI w)) := by
  intro q hq
  by_cases h : q = e
  · rw [h, pk_us, pk_us]; exact ⟨lo, w, rfl, rfl, D⟩
  · rw [pk_un h, pk_un h]; exact A q (by omega)
theorem xw_longest {n : Nat} {a t lb wb : Nat → Int32} (ok : rl_Ok n a) {post : Int32 → SX → Prop} (H : ∀ lo w lb' wb', lr_D (rl_f a) n 100 lo w → post (nI w) (nI n, a, t, lb', wb')) : wpX_longestRises post (nI n, a, t, lb, wb) := by
  have hn := ok.1
  have L : ∀ d i lb wb, i + d = n → lz_A (rl_f a) i lb wb → wX_longestRises_2 post (d + 1) (nI i) (nI n) a t lb wb := by
    intro d
    induction d with
    | zero =>
      intro i lb wb hi A
      have e : i = n := hi
      rw [e] at A
      rw [e]
      refine br_t (nI_le (by omega) (by omega)) ?_
      refine xw_clb (L := 100) ok (Nat.le_refl n) (by omega) A (fun lo w D => ?_)
      refine ⟨vp_in_nI (by omega) (by omega), ?_⟩
      rw [nI_clamp (by omega), pk_us]
      exact H lo w _ _ D
    | succ d ih =>
      intro i lb wb hi A
      have v := rl_val ok (by omega : i < n)
      have ea : a (nI i).toNatClampNeg = nI (rl_f a i) := by rw [nI_clamp (by omega)]; exact v.1
      refine br_f (nI_ge (by omega) (by omega)) ⟨vp_in_nI (by omega) (by omega), ?_⟩
      rw [ea]
      refine xw_clb ok (by omega) (by omega) A (fun lo w D => ?_)
      exact nm_r (nI_1 i) (ih (i + 1) _ _ (by omega) (lz_s A D))
  exact ⟨n + 1, L n 0 lb wb (by omega) (fun q hq => absurd hq (by omega))⟩
theorem yw_longest {n : Nat} {a be sh we wy : Nat → Int32} (ok : rl_Ok n a) {post : Int32 → SY → Prop} (H : ∀ lo w be', lr_D (rl_f a) n 100 lo w → post (nI w) (nI n, a, be', sh, we, wy)) : wpY_longestRises post (nI n, a, be, sh, we, wy) := by
  have hn := ok.1
  have h2n := yb_p10 hn
  have e1 : (1 : Int32) <<< (nI n &&& 31) = nI (2 ^ n) := yb_one (by omega)
  have L : ∀ d p M c be, p + d = 2 ^ n → M ≤ 10 → lr_K (rl_f a) n p M c → wY_longestRises_6 post (d + 1) (nI M) (nI c) (nI p) (nI n) a be sh we wy := by
    intro d
    induction d with
    | zero =>
      intro p M c be hp hM K
      have e : p = 2 ^ n := hp
      rw [e] at K
      rw [e]
      refine br_t ?_ (H M c be (lr_Kx K))
      rw [e1]
      exact nI_le (by omega) (by omega)
    | succ d ih =>
      intro p M c be hp hM K
      have hp2 : p < 2 ^ n := by omega
      have ez := yb_size (f := rl_f a) hn hp2
      have hz := sl_lenle (rl_f a) p.testBit n
      refine br_f ?_ ?_
      · rw [e1]; exact nI_ge (by omega) (by omega)
      · refine yw_size (by omega) ?_
        rw [ez]
        refine pk_lt (sl_l (rl_f a) p.testBit n).length M (fun h => nm_r (nI_1 p) (ih (p + 1) M c be (by omega) hM (lr_Kn K (fun _ => h)))) (fun h => ?_)
        refine yw_run (fl := 1) ok (by omega) (by omega) (fun N be' hN => ?_)
        rw [rn_R1] at hN
        have hNb := rn_Mb hN
        have key := (rn_le (k := 1) hN).trans (lr_iff (rl_inj ok) (fun i hi => (rl_val ok hi).2))
        refine pk_lt 1 N (fun h2 => nm_r (nI_1 p) (ih (p + 1) M c be' (by omega) hM (lr_Kn K (fun hr => absurd (key.mpr hr) (by omega))))) (fun h2 => ?_)
        have hr := key.mp h2
        refine pk_le (sl_l (rl_f a) p.testBit n).length M (fun h3 => nm_r (nI_1 c) (nm_r (nI_1 p) (ih (p + 1) _ (c + 1) be' (by omega) (by omega) ?_))) (fun h3 => nm_r (e' := nI 1) rfl (nm_r (nI_1 p) (ih (p + 1) _ 1 be' (by omega) (by omega) (lr_Kg K hr h3))))
        have e2 : (sl_l (rl_f a) p.testBit n).length = M := by omega
        rw [e2]
        exact lr_Ke K hr e2
  exact ⟨2 ^ n + 1, L (2 ^ n) 0 0 0 be (by omega) (by omega) (lr_K0 _ _)⟩
theorem i_vc_longestRises {k : Nat} {u : SX} {v : SY} (I : i_Rel k u v) (hk : k + 3 ≤ 1536) : wpX_longestRises (fun r u' => wpY_longestRises (fun r' v' => r' = r ∧ i_Rel (k + 3) u' v') v) u := by
  obtain ⟨n, a, t, lb, wb, be, sh, we, wy, rfl, rfl, ok⟩ := I
  refine xw_longest ok (fun lo w lb' wb' D => ?_)
  refine yw_longest ok (fun lo2 w2 be' D2 => ⟨?_, rl_mk ok⟩)
  rw [lr_Du D2 D]
end
end
section
section
theorem xw_inv {n : Nat} {a t lb wb : Nat → Int32} (ok : rl_Ok n a) {post : Int32 → Prop} (h : post (nI (sm_s (fun i => sm_s (fun j => if i < j then iv_g (rl_f a) i j else 0) n) n))) : wpX_inversions post (nI n, a, t, lb, wb) := by
  have hn := ok.1
  have IN : ∀ (J : Int32 → Int32 → Prop) (i m : Nat), i < n → J (nI (m + sm_s (fun j => if i < j then iv_g (rl_f a) i j else 0) n)) (nI (i + 1)) → ∀ d j, j + d = n → i < j → wX_inversions_16 post J (nI i) (nI n) a t lb wb (d + 1) (nI (m + sm_s (fun j => if i < j then iv_g (rl_f a) i j else 0) j)) (nI j) := by
    intro J i m hi HJ d
    induction d with
    | zero =>
      intro j hj _
      have e : j = n := hj
      rw [e]
      exact br_t (nI_le (by omega) (by omega)) (nm_r (nI_1 i) HJ)
    | succ d ih =>
      intro j hj hij
      have vi := rl_val ok hi
      have vj := rl_val ok (by omega : j < n)
      have ei : a (nI i).toNatClampNeg = nI (rl_f a i) := by rw [nI_clamp (by omega)]; exact vi.1
      have ej : a (nI j).toNatClampNeg = nI (rl_f a j) := by rw [nI_clamp (by omega)]; exact vj.1
      have nx := ih (j + 1) (by omega) (by omega)
      rw [sm_s, if_pos hij] at nx
      refine br_f (nI_ge (by omega) (by omega)) ⟨vp_in_nI (by omega) (by omega), vp_in_nI (by omega) (by omega), pk_le (rl_f a i) (rl_f a j) (fun h1 => nm_r (nI_1 j) ?_) (fun h1 => nm_r (nI_1 _) (nm_r (nI_1 j) ?_)) ei ej (by omega) (by omega)⟩
      · have z : iv_g (rl_f a) i j = 0 := if_neg (by omega)
        rw [z] at nx
        exact nx
      · have z : iv_g (rl_f a) i j = 1 := if_pos h1
        rw [z] at nx
        exact nx
  have L : ∀ d i, i + d = n → wX_inversions_4 post (nI n) a t lb wb (d + 1) (nI (sm_s (fun i => sm_s (fun j => if i < j then iv_g (rl_f a) i j else 0) n) i)) (nI i) := by
    intro d
    induction d with
    | zero =>
      intro i hi
      have e : i = n := hi
      rw [e]
      exact br_t (nI_le (by omega) (by omega)) h
    | succ d ih =>
      intro i hi
      have q := IN _ i (sm_s (fun i => sm_s (fun j => if i < j then iv_g (rl_f a) i j else 0) n) i) (by omega) (ih (i + 1) (by omega)) (n - (i + 1)) (i + 1) (by omega) (by omega)
      have z : sm_s (fun j => if i < j then iv_g (rl_f a) i j else 0) (i + 1) = 0 := sm_zero _ (fun j hj => if_neg (by omega))
      rw [z, Nat.add_zero] at q
      exact br_f (nI_ge (by omega) (by omega)) (nm_r (nI_1 i) ⟨_, q⟩)
  exact ⟨n + 1, L n 0 (by omega)⟩
theorem yw_inv {n : Nat} {a be sh we wy : Nat → Int32} (ok : rl_Ok n a) {post : Int32 → Prop} (h : post (nI (sm_s (fun i => sm_s (fun j => iv_g (rl_f a) j i) i) n))) : wpY_inversions post (nI n, a, be, sh, we, wy) := by
  have hn := ok.1
  have IN : ∀ (J : Int32 → Int32 → Prop) (i m : Nat), i < n → J (nI (m + sm_s (fun j => iv_g (rl_f a) j i) i)) (nI (i + 1)) → ∀ d j, j + d = i → wY_inversions_20 post J (nI i) (nI n) a be sh we wy (d + 1) (nI (m + sm_s (fun j => iv_g (rl_f a) j i) j)) (nI j) := by
    intro J i m hi HJ d
    induction d with
    | zero =>
      intro j hj
      have e : j = i := hj
      rw [e]
      exact br_t (nI_le (by omega) (by omega)) (nm_r (nI_1 i) HJ)
    | succ d ih =>
      intro j hj
      have vi := rl_val ok hi
      have vj := rl_val ok (by omega : j < n)
      have ei : a (nI i).toNatClampNeg = nI (rl_f a i) := by rw [nI_clamp (by omega)]; exact vi.1
      have ej : a (nI j).toNatClampNeg = nI (rl_f a j) := by rw [nI_clamp (by omega)]; exact vj.1
      have nx := ih (j + 1) (by omega)
      rw [sm_s] at nx
      refine br_f (nI_ge (by omega) (by omega)) ⟨vp_in_nI (by omega) (by omega), vp_in_nI (by omega) (by omega), pk_le (rl_f a j) (rl_f a i) (fun h1 => nm_r (nI_1 j) ?_) (fun h1 => nm_r (nI_1 _) (nm_r (nI_1 j) ?_)) ej ei (by omega) (by omega)⟩
      · have z : iv_g (rl_f a) j i = 0 := if_neg (by omega)
        rw [z] at nx
        exact nx
      · have z : iv_g (rl_f a) j i = 1 := if_pos h1
        rw [z] at nx
        exact nx
  have L : ∀ d i, i + d = n → wY_inversions_4 post (nI n) a be sh we wy (d + 1) (nI (sm_s (fun i => sm_s (fun j => iv_g (rl_f a) j i) i) i)) (nI i) := by
    intro d
    induction d with
    | zero =>
      intro i hi
      have e : i = n := hi
      rw [e]
      exact br_t (nI_le (by omega) (by omega)) h
    | succ d ih =>
      intro i hi
      have q := IN _ i (sm_s (fun i => sm_s (fun j => iv_g (rl_f a) j i) i) i) (by omega) (ih (i + 1) (by omega)) i 0 (by omega)
      exact br_f (nI_ge (by omega) (by omega)) (br_f (nI_ge (b := 10) (by omega) (by omega)) ⟨_, q⟩)
  exact ⟨n + 1, L n 0 (by omega)⟩
theorem i_vc_inversions {k : Nat} {u : SX} {v : SY} (I : i_Rel k u v) (hk : k + 3 ≤ 1536) : wpX_inversions (fun r => wpY_inversions (fun r' => r' = r ∧ i_Rel (k + 3) u v) v) u := by
  obtain ⟨n, a, t, lb, wb, be, sh, we, wy, rfl, rfl, ok⟩ := I
  refine xw_inv ok ?_
  refine yw_inv ok ⟨?_, rl_mk ok⟩
  rw [iv_eq]
end
end
section
section
/-- the length of line i -/
def wd_l (T : Nat → Nat → Nat) (i : Nat) : Nat := if i < 10 then sm_s (fun j => tv_f T i j) 10 else 0
theorem wd_li (T : Nat → Nat → Nat) {i : Nat} (hi : i < 10) : wd_l T i = sm_s (fun j => tv_f T i j) 10 := if_pos hi
theorem wd_f {T : Nat → Nat → Nat} (hT : tb_T T) {i j : Nat} (hi : i < 10) (hj : j < 10) : tv_f T i j = if j < wd_l T i then 1 else 0 := by
  rw [wd_li T hi]
  exact sm_clI (f := fun j => tv_f T i j) (tv_f1 T i) (tv_rowcl hT hi) hj
theorem wd_fall {T : Nat → Nat → Nat} (hT : tb_T T) : hk_fall (wd_l T) := by
  intro k hk
  by_cases h : k + 1 < 10
  · rw [wd_li T h, wd_li T hk]
    refine sm_le 10 (fun j hj => ?_)
    rcases tv_01 T (k + 1) j with z | z
    · rw [z]; exact Nat.zero_le _
    · rw [z, tv_colcl hT hj k h z]; exact Nat.le_refl _
  · unfold wd_l
    rw [if_neg h]
    exact Nat.zero_le _
theorem wd_sum (T : Nat → Nat → Nat) : sm_s (wd_l T) 10 = tv_fc T 10 10 := sm_congr 10 (fun i hi => wd_li T hi)
theorem xw_hook {i j : Nat} {s : Int32} {a t lb wb : Nat → Int32} {post : Int32 → Prop} (ok : ta_Ok t) (hT : tb_T (ta_T t)) (hi : i < 10) (hj : j < 10) (h : post (nI (hk_h (wd_l (ta_T t)) i j))) : wpX_hook post (s, a, t, lb, wb) (nI i) (nI j) := by
  have L2 : ∀ m, m = 1 + sm_s (fun c => if j < c ∧ c < wd_l (ta_T t) i then 1 else 0) 10 → ∀ d r, r + d = 10 → i < r → wX_hook_38 post (nI j) s a t lb wb (d + 1) (nI (m + sm_s (fun r => if i < r ∧ j < wd_l (ta_T t) r then 1 else 0) r)) (nI r) := by
    intro m hm d
    induction d with
    | zero =>
      intro r hr _
      have e : r = 10 := hr
      rw [e, hm]
      exact br_t (nI_le (a := 10) (b := 10) (by omega) (by omega)) h
    | succ d ih =>
      intro r hr hir
      have nx := ih (r + 1) (by omega) (by omega)
      rw [sm_s] at nx
      refine br_f (nI_ge (b := 10) (by omega) (by omega)) ?_
      refine xw_fill ok (by omega) hj ?_
      rw [wd_f hT (by omega : r < 10) hj]
      by_cases c : j < wd_l (ta_T t) r
      · rw [if_pos ⟨hir, c⟩] at nx
        rw [if_pos c]
        exact br_f (by decide) (nm_r (nI_1 _) (nm_r (nI_1 r) nx))
      · rw [if_neg (fun z => c z.2)] at nx
        rw [if_neg c]
        exact br_t rfl (nm_r (nI_1 r) nx)
  have L1 : ∀ d c, c + d = 10 → j < c → wX_hook_7 post (nI i) (nI j) s a t lb wb (d + 1) (nI (1 + sm_s (fun c => if j < c ∧ c < wd_l (ta_T t) i then 1 else 0) c)) (nI c) := by
    intro d
    induction d with
    | zero =>
      intro c hc _
      have e : c = 10 := hc
      rw [e]
      have q := L2 _ rfl (10 - (i + 1)) (i + 1) (by omega) (by omega)
      have z : sm_s (fun r => if i < r ∧ j < wd_l (ta_T t) r then 1 else 0) (i + 1) = 0 := sm_zero _ (fun r hr => if_neg (by omega))
      rw [z, Nat.add_zero] at q
      exact br_t (nI_le (a := 10) (b := 10) (by omega) (by omega)) (nm_r (nI_1 i) ⟨_, q⟩)
    | succ d ih =>
      intro c hc hjc
      have nx := ih (c + 1) (by omega) (by omega)
      rw [sm_s] at nx
      refine br_f (nI_ge (b := 10) (by omega) (by omega)) ?_
      refine xw_fill ok hi (by omega) ?_
      rw [wd_f hT hi (by omega : c < 10)]
      by_cases e : c < wd_l (ta_T t) i
      · rw [if_pos ⟨hjc, e⟩] at nx
        rw [if_pos e]
        exact br_f (by decide) (nm_r (nI_1 _) (nm_r (nI_1 c) nx))
      · rw [if_neg (fun z => e z.2)] at nx
        rw [if_neg e]
        exact br_t rfl (nm_r (nI_1 c) nx)
  have q := L1 (10 - (j + 1)) (j + 1) (by omega) (by omega)
  have z : sm_s (fun c => if j < c ∧ c < wd_l (ta_T t) i then 1 else 0) (j + 1) = 0 := sm_zero _ (fun c hc => if_neg (by omega))
  rw [z] at q
  exact nm_r (nI_1 j) ⟨_, q⟩
theorem xw_prod {s : Int32} {a t lb wb : Nat → Int32} {post : Int32 → Prop} (ok : ta_Ok t) (hT : tb_T (ta_T t)) (h : post (nI (hk_p (wd_l (ta_T t))))) : wpX_productOfHooks post (s, a, t, lb, wb) := by
  have IN : ∀ (J : Int32 → Int32 → Prop) (i m : Nat), i < 10 → J (nI (m * pr_p (fun j => if j < wd_l (ta_T t) i then hk_h (wd_l (ta_T t)) i j else 1) 10)) (nI (i + 1)) → ∀ d j, j + d = 10 → wX_productOfHooks_12 post J (nI i) s a t lb wb (d + 1) (nI (m * pr_p (fun j => if j < wd_l (ta_T t) i then hk_h (wd_l (ta_T t)) i j else 1) j)) (nI j) := by
    intro J i m hi HJ d
    induction d with
    | zero =>
      intro j hj
      have e : j = 10 := hj
      rw [e]
      exact br_t (nI_le (a := 10) (b := 10) (by omega) (by omega)) (nm_r (nI_1 i) HJ)
    | succ d ih =>
      intro j hj
      have nx := ih (j + 1) (by omega)
      rw [pr_p, ← Nat.mul_assoc] at nx
      refine br_f (nI_ge (b := 10) (by omega) (by omega)) ?_
      refine xw_fill ok hi (by omega) ?_
      rw [wd_f hT hi (by omega : j < 10)]
      by_cases c : j < wd_l (ta_T t) i
      · rw [if_pos c] at nx
        rw [if_pos c]
        refine br_f (by decide) ?_
        refine xw_hook ok hT hi (by omega) ?_
        exact nm_r (pk_mul _ _) (nm_r (nI_1 j) nx)
      · rw [if_neg c, Nat.mul_one] at nx
        rw [if_neg c]
        exact br_t rfl (nm_r (nI_1 j) nx)
  have L : ∀ d i, i + d = 10 → wX_productOfHooks_4 post s a t lb wb (d + 1) (nI (pr_p (fun i => pr_p (fun j => if j < wd_l (ta_T t) i then hk_h (wd_l (ta_T t)) i j else 1) 10) i)) (nI i) := by
    intro d
    induction d with
    | zero =>
      intro i hi
      have e : i = 10 := hi
      rw [e]
      exact br_t (nI_le (a := 10) (b := 10) (by omega) (by omega)) h
    | succ d ih =>
      intro i hi
      have q := IN _ i (pr_p (fun i => pr_p (fun j => if j < wd_l (ta_T t) i then hk_h (wd_l (ta_T t)) i j else 1) 10) i) (by omega) (ih (i + 1) (by omega)) 10 0 (by omega)
      have z : pr_p (fun j => if j < wd_l (ta_T t) i then hk_h (wd_l (ta_T t)) i j else 1) 0 = 1 := rfl
      rw [z, Nat.mul_one] at q
      exact br_f (nI_ge (b := 10) (by omega) (by omega)) ⟨_, q⟩
  exact ⟨11, L 10 0 (by omega)⟩
theorem hk_nb : ∀ n : Fin 11, hk_n n.val < 10000000 := by decide
theorem xw_fact {n : Nat} {s : Int32} {a t lb wb : Nat → Int32} {post : Int32 → Prop} (hn : n ≤ 10) (h : post (nI (hk_n n))) : wpX_factorial post (s, a, t, lb, wb) (nI n) := by
  by_cases h0 : n = 0
  · rw [h0] at h ⊢
    exact ⟨1, br_t (nI_lt (a := 0) (b := 2) (by omega) (by omega)) h⟩
  · have L : ∀ d c, 1 ≤ c → c + d = n → wX_factorial_4 post (nI n) s a t lb wb (d + 1) (nI (hk_n c)) (nI (c + 1)) := by
      intro d
      induction d with
      | zero =>
        intro c _ hc
        have e : c = n := hc
        rw [e]
        exact br_t (nI_lt (by omega) (by omega)) h
      | succ d ih =>
        intro c h1 hc
        exact br_f (nI_nlt (by omega) (by omega)) (nm_r (pk_mul _ _) (nm_r (nI_1 _) (ih (c + 1) (by omega) (by omega))))
    exact ⟨_, L (n - 1) 1 (by omega) (by omega)⟩
end
end
section
section
theorem sm_mono (f : Nat → Nat) {a b : Nat} (h : a ≤ b) : sm_s f a ≤ sm_s f b := by
  have := sm_split f a (b - a)
  rw [show a + (b - a) = b by omega] at this
  omega
def wd_P (s : Nat → Nat) (k : Nat) (sh we : Nat → Int32) : Prop := (∀ q, q < k → sh q = nI (s q)) ∧ (∀ q, q ≤ k → we q = nI (mx_w s q))
theorem wd_11 {s : Nat → Nat} (h10 : s 10 = 0) (hs : sm_s s 10 ≤ 10) : sm_s s 11 ≤ 10 := by
  show sm_s s 10 + s 10 ≤ 10
  omega
theorem wd_wb {s : Nat → Nat} (h10 : s 10 = 0) (hs : sm_s s 10 ≤ 10) {k : Nat} (hk : k ≤ 11) : mx_w s k ≤ 1024 := by
  have h1 := mx_two s k
  have h2 := sm_mono s hk
  have h3 := wd_11 h10 hs
  exact Nat.le_trans h1 (yb_p10 (by omega))
theorem wd_sb {s : Nat → Nat} (h10 : s 10 = 0) (hs : sm_s s 10 ≤ 10) {k : Nat} (hk : k < 11) : s k ≤ 10 := by
  have h2 := sm_mono s (a := k + 1) (b := 11) (by omega)
  rw [sm_s] at h2
  have h3 := wd_11 h10 hs
  omega
theorem yw_part {s : Nat → Nat} {k x : Nat} {z : Int32} {a be sh we wy : Nat → Int32} {post : Int32 → Prop} (h10 : s 10 = 0) (hs : sm_s s 10 ≤ 10) (P : wd_P s 11 sh we) (hk : k < 11) (hx : x < 2 ^ 31) (h : post (nI (mx_d s x k))) : wpY_part post (z, a, be, sh, we, wy) (nI x) (nI k) := by
  have b1 := wd_wb h10 hs (by omega : k ≤ 11)
  have b2 := wd_sb h10 hs hk
  have b3 := mx_pos s k
  have ew : we (nI k).toNatClampNeg = nI (mx_w s k) := by rw [nI_clamp (by omega)]; exact P.2 k (by omega)
  have es : sh (nI k).toNatClampNeg + 1 = nI (s k + 1) := by rw [nI_clamp (by omega), P.1 k hk, nI_1]
  have hq : x / mx_w s k < 2 ^ 31 := Nat.lt_of_le_of_lt (Nat.div_le_self _ _) hx
  refine ⟨vp_in_nI (by omega) (by omega), br_t ?_ ⟨vp_in_nI (by omega) (by omega), ?_⟩⟩
  · rw [ew]; exact nI_le (a := 1) (by omega) (by omega)
  · rw [ew]
    refine ⟨nI_ne0 (by omega) (by omega), vp_in_nI (by omega) (by omega), ?_, ?_⟩
    · rw [es]; exact nI_ne0 (by omega) (by omega)
    · rw [es, pk_div hx b3 (by omega), pk_rem hq (by omega) (by omega)]
      exact h
theorem wd_An {s : Nat → Nat} {x k : Nat} (hk : k < 11) (hm : ¬ mx_m s x k = true ∨ mx_G s x = 0) (y : Nat) : mx_A s x (k + 1) y = mx_A s x k y := by
  rw [mx_Ak s hk y]
  by_cases e : y = x + mx_w s k
  · rw [if_pos e, e, mx_tx]
    rcases hm with h | h
    · rw [if_neg h]; rfl
    · rw [h]
      split <;> rfl
  · rw [if_neg e]; rfl
theorem yw_w132 {s : Nat → Nat} {x : Nat} {z x2 : Int32} {a be sh we : Nat → Int32} {post : Int32 → SY → Prop} {J : Int32 → (Nat → Int32) → (Nat → Int32) → (Nat → Int32) → (Nat → Int32) → (Nat → Int32) → Prop} (h10 : s 10 = 0) (hs : sm_s s 10 ≤ 10) (P : wd_P s 11 sh we) (hx : x < mx_w s 11) (HJ : ∀ wy' : Nat → Int32, (∀ y, y < mx_w s 11 → wy' y = nI (mx_A s x 11 y)) → J (nI (x + 1)) a be sh we wy') : ∀ d k (wy : Nat → Int32), k + d = 11 → (∀ y, y < mx_w s 11 → wy y = nI (mx_A s x k y)) → wY_words_132 post J x2 (nI x) z (d + 1) (nI k) a be sh we wy := by
  have bE := wd_wb h10 hs (Nat.le_refl 11)
  have bG := mx_Gb (s := s) (x := x) hs
  intro d
  induction d with
  | zero =>
    intro k wy hk W
    have e : k = 11 := hk
    rw [e] at W
    rw [e]
    exact br_t (nI_le (a := 11) (b := 11) (by omega) (by omega)) (nm_r (nI_1 x) (HJ wy W))
  | succ d ih =>
    intro k wy hk W
    have k11 : k < 11 := by omega
    have bs := wd_sb h10 hs k11
    have bd := mx_le s x k
    have es : sh (nI k).toNatClampNeg = nI (s k) := by rw [nI_clamp (by omega)]; exact P.1 k k11
    have skip : ¬ mx_m s x k = true → wY_words_184 post J (wY_words_132 post J x2 (nI x) z (d + 1)) x2 (nI x) (nI k) z a be sh we wy := by
      intro hm
      exact br_t rfl (nm_r (nI_1 k) (ih (k + 1) wy (by omega) (fun y hy => by rw [wd_An k11 (Or.inl hm) y]; exact W y hy)))
    have go : mx_m s x k = true → wY_words_180 post J (wY_words_132 post J x2 (nI x) z (d + 1)) x2 (nI x) (nI k) z a be sh we wy := by
      intro hm
      have ex : wy (nI x).toNatClampNeg = nI (mx_G s x) := by rw [nI_clamp (by omega), W x hx, mx_Ag h10 hs (Nat.le_refl x) hx]
      have ew : nI x + we (nI k).toNatClampNeg = nI (x + mx_w s k) := by rw [nI_clamp (by omega), P.2 k (by omega), nI_add]
      have hin := mx_in k11 hx (mx_mI.mp hm).1
      have iw : vp_in (nI x + we (nI k).toNatClampNeg) 1100 := by rw [ew]; exact vp_in_nI (by omega) (by omega)
      have eA := mx_Ak s (x := x) k11 (x + mx_w s k)
      rw [if_pos rfl, mx_tx, if_pos hm] at eA
      refine br_f (by decide) ⟨vp_in_nI (by omega) (by omega), pk_le (mx_G s x) 0 (fun h => nm_r (nI_1 k) (ih (k + 1) wy (by omega) (fun y hy => by rw [wd_An k11 (Or.inr (by omega)) y]; exact W y hy))) (fun h => ⟨vp_in_nI (by omega) (by omega), iw, vp_in_nI (by omega) (by omega), iw, nm_r (e' := upd wy (x + mx_w s k) (nI (mx_A s x (k + 1) (x + mx_w s k)))) ?_ (nm_r (nI_1 k) (ih (k + 1) _ (by omega) ?_))⟩) ex rfl (by omega) (by omega)⟩
      · rw [ex, ew, nI_clamp (by omega), W _ hin, nI_add, eA]
      · intro y hy
        by_cases e : y = x + mx_w s k
        · rw [e, pk_us]
        · rw [pk_un e, mx_Ak s k11 y, if_neg e, Nat.add_zero]
          exact W y hy
    refine br_f (nI_ge (b := 11) (by omega) (by omega)) ?_
    refine yw_part h10 hs P k11 (by omega) ⟨vp_in_nI (by omega) (by omega), pk_le (s k) (mx_d s x k) (fun h => skip ?_) (fun h => ?_) es rfl (by omega) (by omega)⟩
    · intro hm
      have := (mx_mI.mp hm).1
      omega
    · by_cases k0 : k = 0
      · refine br_t (by rw [k0]; rfl) (go ?_)
        exact mx_mI.mpr ⟨h, Or.inl k0⟩
      · have ek : nI k - 1 = nI (k - 1) := pk_sub (b := 1) (by omega)
        refine br_f (nI_ne0 (by omega) (by omega)) ?_
        refine yw_part h10 hs P k11 (by omega) ?_
        rw [ek]
        have bd2 := mx_le s x (k - 1)
        have bs2 := wd_sb h10 hs (by omega : k - 1 < 11)
        refine yw_part h10 hs P (by omega) (by omega) (pk_le (mx_d s x (k - 1)) (mx_d s x k) (fun h2 => skip ?_) (fun h2 => go ?_))
        · intro hm
          rcases (mx_mI.mp hm).2 with c | c
          · exact k0 c
          · omega
        · exact mx_mI.mpr ⟨h, Or.inr h2⟩
theorem yw_w117 {s : Nat → Nat} {z : Int32} {a be sh we : Nat → Int32} {post : Int32 → SY → Prop} (h10 : s 10 = 0) (hs : sm_s s 10 ≤ 10) (P : wd_P s 11 sh we) (H : ∀ wy', post (nI (mx_G s (mx_w s 11 - 1))) (z, a, be, sh, we, wy')) : ∀ d x (wy : Nat → Int32), x + d = mx_w s 11 → (∀ y, y < mx_w s 11 → wy y = nI (mx_A s x 0 y)) → wY_words_117 post (nI (mx_w s 11)) z (d + 1) (nI x) a be sh we wy := by
  have bE := wd_wb h10 hs (Nat.le_refl 11)
  have pE := mx_pos s 11
  have eE : nI (mx_w s 11) - 1 = nI (mx_w s 11 - 1) := pk_sub (b := 1) (by omega)
  intro d
  induction d with
  | zero =>
    intro x wy hx W
    have e : x = mx_w s 11 := hx
    rw [e] at W
    rw [e]
    refine br_t (nI_le (by omega) (by omega)) ?_
    rw [eE, nI_clamp (by omega), W _ (by omega), mx_Ag h10 hs (by omega) (by omega)]
    exact ⟨vp_in_nI (by omega) (by omega), H wy⟩
  | succ d ih =>
    intro x wy hx W
    refine br_f (nI_ge (by omega) (by omega)) (br_f (nI_ge (b := 1100) (by omega) (by omega)) ⟨12, ?_⟩)
    exact yw_w132 h10 hs P (by omega) (fun wy' W' => ih (x + 1) wy' (by omega) (fun y hy => by rw [← mx_An]; exact W' y hy)) 11 0 wy (by omega) W
theorem yw_w82 {s : Nat → Nat} {z : Int32} {a be sh we : Nat → Int32} {post : Int32 → SY → Prop} (h10 : s 10 = 0) (hs : sm_s s 10 ≤ 10) (P : wd_P s 11 sh we) (H : ∀ wy', post (nI (mx_G s (mx_w s 11 - 1))) (z, a, be, sh, we, wy')) : ∀ d x (wy : Nat → Int32), x + d = mx_w s 11 → (∀ y, y < x → wy y = nI (if y = 0 then 1 else 0)) → wY_words_82 post (nI (mx_w s 11)) z (d + 1) (nI x) a be sh we wy := by
  have bE := wd_wb h10 hs (Nat.le_refl 11)
  intro d
  induction d with
  | zero =>
    intro x wy hx W
    have e : x = mx_w s 11 := hx
    rw [e] at W
    rw [e]
    exact br_t (nI_le (by omega) (by omega)) ⟨mx_w s 11 + 1, yw_w117 h10 hs P H (mx_w s 11) 0 wy (by omega) (fun y hy => by rw [mx_A0]; exact W y hy)⟩
  | succ d ih =>
    intro x wy hx W
    have st : ∀ v, v = (if x = 0 then 1 else 0) → ∀ y, y < x + 1 → upd wy x (nI v) y = nI (if y = 0 then 1 else 0) := by
      intro v hv y hy
      by_cases e : y = x
      · rw [e, pk_us, hv]
      · rw [pk_un e]; exact W y (by omega)
    refine br_f (nI_ge (by omega) (by omega)) (br_f (nI_ge (b := 1100) (by omega) (by omega)) (pk_eq x 0 (fun h => ⟨vp_in_nI (by omega) (by omega), nm_r (e' := upd wy x (nI 1)) ?_ (nm_r (nI_1 x) (ih (x + 1) _ (by omega) (st 1 (if_pos h).symm)))⟩) (fun h => ⟨vp_in_nI (by omega) (by omega), nm_r (e' := upd wy x (nI 0)) ?_ (nm_r (nI_1 x) (ih (x + 1) _ (by omega) (st 0 (if_neg h).symm)))⟩)))
    · rw [nI_clamp (by omega)]; rfl
    · rw [nI_clamp (by omega)]; rfl
theorem yw_words {s : Nat → Nat} {n : Nat} {a be sh we wy : Nat → Int32} {post : Int32 → SY → Prop} (ok : rl_Ok n a) (h10 : s 10 = 0) (hs : sm_s s 10 ≤ 10) (hG : ∀ k M M', k < 11 → gr_M (fun a b => b < a) (k + 1) (mt_w a 99 n) M → gr_M (fun a b => b < a) k (mt_w a 99 n) M' → M' ≤ M ∧ M - M' = s k) (H : ∀ be' sh' we' wy', post (nI (mx_G s (mx_w s 11 - 1))) (nI n, a, be', sh', we', wy')) : wpY_words post (nI n, a, be, sh, we, wy) := by
  have hn := ok.1
  have h2n := yb_p10 hn
  have L : ∀ d k (be sh we : Nat → Int32), k + d = 11 → wd_P s k sh we → wY_words_14 post (nI (2 ^ n - 1)) (d + 1) (nI k) (nI n) a be sh we wy := by
    intro d
    induction d with
    | zero =>
      intro k be sh we hk P
      have e : k = 11 := hk
      rw [e] at P
      rw [e]
      exact br_t (nI_le (a := 11) (b := 11) (by omega) (by omega)) (nm_r (e' := nI (mx_w s 11)) (P.2 11 (Nat.le_refl 11)) ⟨mx_w s 11 + 1, yw_w82 h10 hs P (fun wy' => H be sh we wy') (mx_w s 11) 0 wy (by omega) (fun y hy => absurd hy (by omega))⟩)
    | succ d ih =>
      intro k be sh we hk P
      refine br_f (nI_ge (b := 11) (by omega) (by omega)) ?_
      rw [nI_1 k]
      refine yw_gr (k := k + 1) (fl := 1) ok (by omega) (by omega) (by omega) (fun M be' hM => ?_)
      refine yw_gr (k := k) (fl := 1) ok (by omega) (by omega) (by omega) (fun M' be'' hM' => ?_)
      rw [rn_R1, mt_all ok (Nat.le_refl n)] at hM hM'
      obtain ⟨hle, hd⟩ := hG k M M' (by omega) hM hM'
      refine ⟨vp_in_nI (by omega) (by omega), nm_r (e' := upd sh k (nI (s k))) ?_ ⟨vp_in_nI (by omega) (by omega), vp_in_nI (by omega) (by omega), vp_in_nI (by omega) (by omega), nm_r (e' := upd we (k + 1) (nI (mx_w s (k + 1)))) ?_ (nm_e (ih (k + 1) be'' _ _ (by omega) ⟨?_, ?_⟩))⟩⟩
      · rw [nI_clamp (by omega), pk_sub hle, hd]
      · rw [nI_clamp (by omega : k + 1 < 2 ^ 31), nI_clamp (by omega : k < 2 ^ 31), pk_us, P.2 k (Nat.le_refl k), nI_1, pk_mul]
        rfl
      · intro q hq
        by_cases e : q = k
        · rw [e, pk_us]
        · rw [pk_un e]; exact P.1 q (by omega)
      · intro q hq
        by_cases e : q = k + 1
        · rw [e, pk_us]
        · rw [pk_un e]; exact P.2 q (by omega)
  unfold wpY_words
  dsimp only
  refine yw_whole hn (nm_r (e' := upd we 0 (nI 1)) rfl ⟨12, L 11 0 be sh _ (by omega) ⟨fun q hq => absurd hq (by omega), fun q hq => ?_⟩⟩)
  have e : q = 0 := by omega
  rw [e, pk_us]
  rfl
end
end
section
section
theorem wd_len {n : Nat} {a t : Nat → Int32} (ok : rl_Ok n a) (B : ta_B (mt_w a 99 n) t) : sm_s (wd_l (ta_T t)) 10 = n := by
  have h1 := B.2.2.2.2.length_eq
  rw [tv_wlen, ← mt_99 ok (Nat.le_refl n), sl_len] at h1
  have h2 : sm_s (fun i => if (fun _ => true) i = true then 1 else 0) n = n := by
    have := sm_congr (f := fun i => if (fun _ : Nat => true) i = true then 1 else 0) (g := fun _ => 1) n (fun i _ => if_pos rfl)
    rw [this, sm_one]
  rw [wd_sum, ← h1]
  exact h2
theorem wd_G {n : Nat} {a t : Nat → Int32} (B : ta_B (mt_w a 99 n) t) : ∀ k M M', k < 11 → gr_M (fun a b => b < a) (k + 1) (mt_w a 99 n) M → gr_M (fun a b => b < a) k (mt_w a 99 n) M' → M' ≤ M ∧ M - M' = wd_l (ta_T t) k := by
  intro k M M' hk h1 h2
  have e1 := gr_Mu h1 (tv_rise B.2.1 B.2.2 (k + 1))
  have e2 := gr_Mu h2 (tv_rise B.2.1 B.2.2 k)
  by_cases h : k < 10
  · rw [Nat.min_eq_left (by omega)] at e1 e2
    have e3 : tv_fc (ta_T t) (k + 1) 10 = tv_fc (ta_T t) k 10 + sm_s (fun j => tv_f (ta_T t) k j) 10 := rfl
    rw [e3] at e1
    rw [wd_li _ h]
    omega
  · have e : k = 10 := by omega
    rw [e] at e1 e2 ⊢
    rw [Nat.min_eq_right (by omega)] at e1 e2
    have e4 : wd_l (ta_T t) 10 = 0 := if_neg (by omega)
    omega
theorem i_vc_words {k : Nat} {u : SX} {v : SY} (I : i_Rel k u v) (hk : k + 3 ≤ 1536) : wpX_words (fun r u' => wpY_words (fun r' v' => r' = r ∧ i_Rel (k + 3) u' v') v) u := by
  obtain ⟨n, a, t, lb, wb, be, sh, we, wy, rfl, rfl, ok⟩ := I
  have hn := ok.1
  unfold wpX_words
  dsimp only
  refine xw_make ok (Nat.le_refl n) (fun t' B => ?_)
  have hl := wd_len ok B
  have hf := wd_fall B.2.1
  have hs : sm_s (wd_l (ta_T t')) 10 ≤ 10 := by omega
  have h10 : wd_l (ta_T t') 10 = 0 := if_neg (by omega)
  have fc := hk_facts hf hs
  have nb := hk_nb ⟨n, by omega⟩
  dsimp only at nb
  have hb : hk_p (wd_l (ta_T t')) < 2 ^ 31 := by omega
  refine xw_prod B.1 B.2.1 ?_
  refine br_f (nI_nle fc.2.2.1 hb) ?_
  refine xw_fact hn ⟨nI_ne0 fc.2.2.1 hb, ?_⟩
  rw [pk_div (by omega) fc.2.2.1 hb]
  refine yw_words (s := wd_l (ta_T t')) ok h10 hs (wd_G B) (fun be' sh' we' wy' => ⟨?_, rl_mk ok⟩)
  rw [mx_Gend hf]
  unfold hk_F
  rw [hl]
end
end
