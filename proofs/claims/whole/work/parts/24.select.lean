section
/-- the numbers at the chosen places below n -/
def sl_l (f : Nat → Nat) (b : Nat → Bool) : Nat → List Nat
  | 0 => []
  | n + 1 => sl_l f b n ++ (if b n = true then [f n] else [])
theorem sl_t {f : Nat → Nat} {b : Nat → Bool} {n : Nat} (h : b n = true) : sl_l f b (n + 1) = sl_l f b n ++ [f n] := by rw [sl_l, if_pos h]
theorem sl_f {f : Nat → Nat} {b : Nat → Bool} {n : Nat} (h : ¬ b n = true) : sl_l f b (n + 1) = sl_l f b n := by rw [sl_l, if_neg h, List.append_nil]
theorem sl_len (f : Nat → Nat) (b : Nat → Bool) : ∀ n, (sl_l f b n).length = sm_s (fun i => if b i = true then 1 else 0) n := by
  intro n
  induction n with
  | zero => rfl
  | succ n ih =>
    by_cases h : b n = true
    · rw [sl_t h, List.length_append, ih, sm_s, if_pos h]; rfl
    · rw [sl_f h, ih, sm_s, if_neg h]; rfl
theorem sl_congr {f f' : Nat → Nat} {b b' : Nat → Bool} : ∀ n, (∀ i, i < n → b i = b' i ∧ f i = f' i) → sl_l f b n = sl_l f' b' n := by
  intro n
  induction n with
  | zero => intro _; rfl
  | succ n ih =>
    intro h
    have h1 := h n (by omega)
    rw [sl_l, sl_l, ih (fun i hi => h i (by omega)), h1.1, h1.2]
theorem sl_sub {f : Nat → Nat} {b b' : Nat → Bool} : ∀ n, (∀ i, i < n → b i = true → b' i = true) → List.Sublist (sl_l f b n) (sl_l f b' n) := by
  intro n
  induction n with
  | zero => intro _; exact List.Sublist.refl _
  | succ n ih =>
    intro h
    have h1 := ih (fun i hi => h i (by omega))
    by_cases e : b n = true
    · rw [sl_t e, sl_t (h n (by omega) e)]
      exact h1.append (List.Sublist.refl _)
    · rw [sl_f e]
      exact h1.trans (List.sublist_append_left _ _)
theorem sl_pre {f : Nat → Nat} {b : Nat → Bool} (n : Nat) : ∀ d, List.Sublist (sl_l f b n) (sl_l f b (n + d)) := by
  intro d
  induction d with
  | zero => exact List.Sublist.refl _
  | succ d ih => exact ih.trans (List.sublist_append_left _ _)
theorem sl_preL {f : Nat → Nat} {b : Nat → Bool} {m n : Nat} (h : m ≤ n) : List.Sublist (sl_l f b m) (sl_l f b n) := by
  have h1 := sl_pre (f := f) (b := b) m (n - m)
  rwa [show m + (n - m) = n by omega] at h1
theorem sl_mem {f : Nat → Nat} {b : Nat → Bool} {x : Nat} : ∀ {n : Nat}, x ∈ sl_l f b n → ∃ i, i < n ∧ b i = true ∧ x = f i := by
  intro n
  induction n with
  | zero => intro h; exact absurd (show x ∈ [] from h) (by simp)
  | succ n ih =>
    intro h
    by_cases e : b n = true
    · rw [sl_t e] at h
      rcases List.mem_append.mp h with h | h
      · obtain ⟨i, h1, h2, h3⟩ := ih h
        exact ⟨i, by omega, h2, h3⟩
      · exact ⟨n, by omega, e, List.mem_singleton.mp h⟩
    · rw [sl_f e] at h
      obtain ⟨i, h1, h2, h3⟩ := ih h
      exact ⟨i, by omega, h2, h3⟩
theorem sl_nd {f : Nat → Nat} {b : Nat → Bool} : ∀ {n : Nat}, (∀ i j, i < n → j < n → f i = f j → i = j) → (sl_l f b n).Nodup := by
  intro n
  induction n with
  | zero => intro _; exact List.nodup_nil
  | succ n ih =>
    intro h
    have h1 := ih (fun i j hi hj e => h i j (by omega) (by omega) e)
    by_cases e : b n = true
    · rw [sl_t e]
      refine List.nodup_append.mpr ⟨h1, by simp, ?_⟩
      intro a ha c hc
      rw [List.mem_singleton.mp hc]
      obtain ⟨i, i1, _, i3⟩ := sl_mem ha
      rw [i3]
      intro ee
      have := h i n (by omega) (by omega) ee
      omega
    · rw [sl_f e]; exact h1
theorem sl_last {f : Nat → Nat} {b : Nat → Bool} : ∀ {n : Nat} {C : List Nat}, List.Sublist C (sl_l f b n) → C = [] ∨ ∃ j C', j < n ∧ b j = true ∧ C = C' ++ [f j] ∧ List.Sublist C' (sl_l f b j) := by
  intro n
  induction n with
  | zero => intro C h; exact Or.inl (List.sublist_nil.mp h)
  | succ n ih =>
    intro C h
    by_cases e : b n = true
    · rw [sl_t e] at h
      obtain ⟨C1, C2, rfl, h1, h2⟩ := List.sublist_append_iff.mp h
      rcases List.sublist_cons_iff.mp h2 with h3 | ⟨r, rfl, h3⟩
      · have e2 : C2 = [] := List.sublist_nil.mp h3
        rw [e2, List.append_nil]
        rcases ih h1 with z | ⟨j, C', a1, a2, a3, a4⟩
        · exact Or.inl z
        · exact Or.inr ⟨j, C', by omega, a2, a3, a4⟩
      · have e2 : r = [] := List.sublist_nil.mp h3
        rw [e2]
        exact Or.inr ⟨n, C1, by omega, e, rfl, h1⟩
    · rw [sl_f e] at h
      rcases ih h with z | ⟨j, C', a1, a2, a3, a4⟩
      · exact Or.inl z
      · exact Or.inr ⟨j, C', by omega, a2, a3, a4⟩
/-- an R-chain of length m among the chosen places ends at i -/
def rn_E (R : Nat → Nat → Prop) (f : Nat → Nat) (b : Nat → Bool) (i m : Nat) : Prop := b i = true ∧ ∃ C : List Nat, List.Sublist C (sl_l f b i) ∧ (C ++ [f i]).Pairwise R ∧ C.length + 1 = m
theorem rn_1 {R : Nat → Nat → Prop} {f : Nat → Nat} {b : Nat → Bool} {i : Nat} (h : b i = true) : rn_E R f b i 1 := ⟨h, [], List.nil_sublist _, by simp, rfl⟩
theorem rn_s {R : Nat → Nat → Prop} (tr : ∀ a b c, R a b → R b c → R a c) {f : Nat → Nat} {b : Nat → Bool} {i j m : Nat} (h : rn_E R f b j m) (hj : j < i) (hb : b i = true) (hR : R (f j) (f i)) : rn_E R f b i (m + 1) := by
  obtain ⟨bj, C, h1, h2, h3⟩ := h
  refine ⟨hb, C ++ [f j], ?_, ?_, by rw [List.length_append]; simpa using h3⟩
  · have h4 : List.Sublist (C ++ [f j]) (sl_l f b (j + 1)) := by rw [sl_t bj]; exact h1.append (List.Sublist.refl _)
    exact h4.trans (sl_preL hj)
  · refine List.pairwise_append.mpr ⟨h2, by simp, ?_⟩
    intro a ha c hc
    rw [List.mem_singleton.mp hc]
    rcases List.mem_append.mp ha with ha | ha
    · exact tr _ _ _ ((List.pairwise_append.mp h2).2.2 a ha (f j) (by simp)) hR
    · rw [List.mem_singleton.mp ha]; exact hR
theorem rn_i {R : Nat → Nat → Prop} {f : Nat → Nat} {b : Nat → Bool} {i m : Nat} (h : rn_E R f b i m) (hm : 2 ≤ m) : ∃ j, j < i ∧ b j = true ∧ R (f j) (f i) ∧ rn_E R f b j (m - 1) := by
  obtain ⟨bi, C, h1, h2, h3⟩ := h
  rcases sl_last h1 with z | ⟨j, C', a1, a2, a3, a4⟩
  · rw [z] at h3
    simp only [List.length_nil] at h3
    omega
  · rw [a3] at h2 h3
    obtain ⟨p1, _, p3⟩ := List.pairwise_append.mp h2
    refine ⟨j, a1, a2, p3 (f j) (by simp) (f i) (by simp), a2, C', a4, p1, ?_⟩
    rw [List.length_append, List.length_singleton] at h3
    omega
/-- v is the length of the longest chain that ends at i, 0 if i isn't chosen -/
def rn_V (R : Nat → Nat → Prop) (f : Nat → Nat) (b : Nat → Bool) (i v : Nat) : Prop := (b i = true → rn_E R f b i v ∧ ∀ m, rn_E R f b i m → m ≤ v) ∧ (¬ b i = true → v = 0)
def rn_J (R : Nat → Nat → Prop) (f : Nat → Nat) (b : Nat → Bool) (i : Nat) (be : Nat → Nat) (j v : Nat) : Prop := (b i = true → rn_E R f b i v ∧ ∀ q, q < j → b q = true → R (f q) (f i) → be q + 1 ≤ v) ∧ (¬ b i = true → v = 0)
theorem rn_J0 {R : Nat → Nat → Prop} {f : Nat → Nat} {b : Nat → Bool} {i : Nat} {be : Nat → Nat} : rn_J R f b i be 0 (if b i = true then 1 else 0) :=
  ⟨fun h => by rw [if_pos h]; exact ⟨rn_1 h, fun q hq => absurd hq (by omega)⟩, fun h => if_neg h⟩
theorem rn_Jt {R : Nat → Nat → Prop} (tr : ∀ a b c, R a b → R b c → R a c) {f : Nat → Nat} {b : Nat → Bool} {i : Nat} {be : Nat → Nat} {j v : Nat} (h : rn_J R f b i be j v) (hj : j < i) (V : rn_V R f b j (be j)) (bi : b i = true) (bj : b j = true) (r : R (f j) (f i)) (hv : v < be j + 1) : rn_J R f b i be (j + 1) (be j + 1) := by
  refine ⟨fun _ => ⟨rn_s tr (V.1 bj).1 hj bi r, ?_⟩, fun hn => absurd bi hn⟩
  intro q hq bq rq
  by_cases e : q = j
  · rw [e]; exact Nat.le_refl _
  · have := (h.1 bi).2 q (by omega) bq rq
    omega
theorem rn_Jk {R : Nat → Nat → Prop} {f : Nat → Nat} {b : Nat → Bool} {i : Nat} {be : Nat → Nat} {j v : Nat} (h : rn_J R f b i be j v) (hk : b i = true → b j = true → R (f j) (f i) → be j + 1 ≤ v) : rn_J R f b i be (j + 1) v := by
  refine ⟨fun bi => ⟨(h.1 bi).1, ?_⟩, h.2⟩
  intro q hq bq rq
  by_cases e : q = j
  · rw [e] at bq rq ⊢; exact hk bi bq rq
  · exact (h.1 bi).2 q (by omega) bq rq
theorem rn_Je {R : Nat → Nat → Prop} {f : Nat → Nat} {b : Nat → Bool} {i : Nat} {be : Nat → Nat} {v : Nat} (h : rn_J R f b i be i v) (V : ∀ q, q < i → rn_V R f b q (be q)) : rn_V R f b i v := by
  refine ⟨fun bi => ⟨(h.1 bi).1, ?_⟩, h.2⟩
  intro m hm
  by_cases h2 : 2 ≤ m
  · obtain ⟨j, j1, j2, j3, j4⟩ := rn_i hm h2
    have a := ((V j j1).1 j2).2 _ j4
    have c := (h.1 bi).2 j j1 j2 j3
    omega
  · obtain ⟨_, C, _, _, e⟩ := (h.1 bi).1
    omega
/-- M is the length of the longest chain among the chosen places below n -/
def rn_M (R : Nat → Nat → Prop) (f : Nat → Nat) (b : Nat → Bool) (n M : Nat) : Prop := gr_NB R M (sl_l f b n) ∧ ∃ C : List Nat, List.Sublist C (sl_l f b n) ∧ C.Pairwise R ∧ C.length = M
theorem rn_M0 {R : Nat → Nat → Prop} {f : Nat → Nat} {b : Nat → Bool} : rn_M R f b 0 0 :=
  ⟨fun C h _ => by rw [List.sublist_nil.mp (show List.Sublist C [] from h)]; exact Nat.le_refl _, [], List.nil_sublist _, List.Pairwise.nil, rfl⟩
theorem rn_Ms {R : Nat → Nat → Prop} {f : Nat → Nat} {b : Nat → Bool} {n M v : Nat} (h : rn_M R f b n M) (V : rn_V R f b n v) : rn_M R f b (n + 1) (if M < v then v else M) := by
  have up : ∀ C : List Nat, List.Sublist C (sl_l f b (n + 1)) → C.Pairwise R → C.length ≤ M ∨ C.length ≤ v := by
    intro C hC cC
    rcases sl_last hC with z | ⟨j, C', a1, a2, a3, a4⟩
    · left; rw [z]; exact Nat.zero_le _
    · by_cases e : j = n
      · right
        rw [e] at a2 a3 a4
        rw [a3] at cC ⊢
        have := (V.1 a2).2 (C'.length + 1) ⟨a2, C', a4, cC, rfl⟩
        rw [List.length_append, List.length_singleton]
        exact this
      · left
        refine h.1 C ?_ cC
        rw [a3]
        have h4 : List.Sublist (C' ++ [f j]) (sl_l f b (j + 1)) := by rw [sl_t a2]; exact a4.append (List.Sublist.refl _)
        exact h4.trans (sl_preL (by omega))
  by_cases lt : M < v
  · rw [if_pos lt]
    refine ⟨fun C hC cC => ?_, ?_⟩
    · rcases up C hC cC with u | u <;> omega
    · have bn : b n = true := by
        apply Classical.byContradiction
        intro hn
        have := V.2 hn
        omega
      obtain ⟨_, C, c1, c2, c3⟩ := (V.1 bn).1
      refine ⟨C ++ [f n], ?_, c2, by rw [List.length_append, List.length_singleton]; exact c3⟩
      rw [sl_t bn]
      exact c1.append (List.Sublist.refl _)
  · rw [if_neg lt]
    refine ⟨fun C hC cC => ?_, ?_⟩
    · rcases up C hC cC with u | u <;> omega
    · obtain ⟨C, c1, c2, c3⟩ := h.2
      exact ⟨C, c1.trans (sl_preL (by omega)), c2, c3⟩
theorem rn_le {R : Nat → Nat → Prop} {f : Nat → Nat} {b : Nat → Bool} {n M k : Nat} (h : rn_M R f b n M) : M ≤ k ↔ gr_NB R k (sl_l f b n) := by
  constructor
  · exact fun e => tv_NBle e h.1
  · intro e
    obtain ⟨C, c1, c2, c3⟩ := h.2
    rw [← c3]
    exact e C c1 c2
theorem sl_bitO (e q : Nat) : (2 ^ e + q).testBit e = !q.testBit e := Nat.testBit_two_pow_add_eq q e
theorem sl_bitL {e q j : Nat} (h : j < e) : (2 ^ e + q).testBit j = q.testBit j := Nat.testBit_two_pow_add_gt h q
theorem sl_bitZ {e q : Nat} (h : q < 2 ^ e) : q.testBit e = false := Nat.testBit_lt_two_pow h
theorem sl_mask {f : Nat → Nat} {b : Nat → Bool} : ∀ {n : Nat} {S : List Nat}, List.Sublist S (sl_l f b n) → ∃ p, p < 2 ^ n ∧ (∀ i, i < n → p.testBit i = true → b i = true) ∧ sl_l f p.testBit n = S := by
  intro n
  induction n with
  | zero => intro S h; exact ⟨0, by omega, fun i hi => absurd hi (by omega), (List.sublist_nil.mp (show List.Sublist S [] from h)).symm⟩
  | succ n ih =>
    intro S h
    have low : ∀ {S1 : List Nat}, List.Sublist S1 (sl_l f b n) → ∃ p, p < 2 ^ (n + 1) ∧ (∀ i, i < n + 1 → p.testBit i = true → b i = true) ∧ sl_l f p.testBit (n + 1) = S1 := by
      intro S1 h1
      obtain ⟨p, p1, p2, p3⟩ := ih h1
      have z := sl_bitZ p1
      refine ⟨p, by rw [Nat.pow_succ]; omega, ?_, ?_⟩
      · intro i hi hb
        by_cases e : i = n
        · rw [e, z] at hb; exact absurd hb (by decide)
        · exact p2 i (by omega) hb
      · rw [sl_f (by rw [z]; decide), p3]
    by_cases e : b n = true
    · rw [sl_t e] at h
      obtain ⟨C1, C2, rfl, h1, h2⟩ := List.sublist_append_iff.mp h
      rcases List.sublist_cons_iff.mp h2 with h3 | ⟨r, rfl, h3⟩
      · rw [List.sublist_nil.mp h3, List.append_nil]
        exact low h1
      · rw [List.sublist_nil.mp h3]
        obtain ⟨p, p1, p2, p3⟩ := ih h1
        have z := sl_bitZ p1
        refine ⟨2 ^ n + p, by rw [Nat.pow_succ]; omega, ?_, ?_⟩
        · intro i hi hb
          by_cases e2 : i = n
          · rw [e2]; exact e
          · rw [sl_bitL (by omega)] at hb
            exact p2 i (by omega) hb
        · rw [sl_t (by rw [sl_bitO, z]; rfl), ← p3]
          rw [sl_congr (f := f) (f' := f) (b := (2 ^ n + p).testBit) (b' := p.testBit) n (fun i hi => ⟨sl_bitL hi, rfl⟩)]
    · rw [sl_f e] at h
      exact low h
/-- the loop over the masks: the greatest size so far -/
def gt_O (R : Nat → Nat → Prop) (k : Nat) (f : Nat → Nat) (wi : Nat → Bool) (n q : Nat) : Prop := (∀ i, i < n → q.testBit i = true → wi i = true) ∧ gr_NB R k (sl_l f q.testBit n)
def gt_J (R : Nat → Nat → Prop) (k : Nat) (f : Nat → Nat) (wi : Nat → Bool) (n p M : Nat) : Prop := (∀ q, q < p → gt_O R k f wi n q → (sl_l f q.testBit n).length ≤ M) ∧ (M = 0 ∨ ∃ q, gt_O R k f wi n q ∧ (sl_l f q.testBit n).length = M)
theorem gt_J0 {R : Nat → Nat → Prop} {k : Nat} {f : Nat → Nat} {wi : Nat → Bool} {n : Nat} : gt_J R k f wi n 0 0 := ⟨fun q hq => absurd hq (by omega), Or.inl rfl⟩
theorem gt_Jt {R : Nat → Nat → Prop} {k : Nat} {f : Nat → Nat} {wi : Nat → Bool} {n p M : Nat} (h : gt_J R k f wi n p M) (o : gt_O R k f wi n p) (lt : M < (sl_l f p.testBit n).length) : gt_J R k f wi n (p + 1) (sl_l f p.testBit n).length := by
  refine ⟨fun q hq oq => ?_, Or.inr ⟨p, o, rfl⟩⟩
  by_cases e : q = p
  · rw [e]; exact Nat.le_refl _
  · have := h.1 q (by omega) oq
    omega
theorem gt_Jf {R : Nat → Nat → Prop} {k : Nat} {f : Nat → Nat} {wi : Nat → Bool} {n p M : Nat} (h : gt_J R k f wi n p M) (o : gt_O R k f wi n p → (sl_l f p.testBit n).length ≤ M) : gt_J R k f wi n (p + 1) M := by
  refine ⟨fun q hq oq => ?_, h.2⟩
  by_cases e : q = p
  · rw [e] at oq ⊢; exact o oq
  · exact h.1 q (by omega) oq
theorem gt_Je {R : Nat → Nat → Prop} {k : Nat} {f : Nat → Nat} {wi : Nat → Bool} {n M : Nat} (h : gt_J R k f wi n (2 ^ n) M) : gr_M R k (sl_l f wi n) M := by
  refine ⟨?_, ?_⟩
  · rcases h.2 with z | ⟨q, o, e⟩
    · refine ⟨[], List.nil_sublist _, z.symm, fun C hC _ => ?_⟩
      rw [List.sublist_nil.mp hC]
      exact Nat.zero_le _
    · exact ⟨_, sl_sub n o.1, e, o.2⟩
  · intro m hm
    obtain ⟨S, s1, s2, s3⟩ := hm
    obtain ⟨p, p1, p2, p3⟩ := sl_mask s1
    have := h.1 p p1 ⟨p2, by rw [p3]; exact s3⟩
    rw [p3, s2] at this
    exact this
theorem rn_inc {S : List Nat} (nd : S.Nodup) : gr_NB (fun a b => b < a) 1 S ↔ S.Pairwise (fun a b => a < b) := by
  constructor
  · intro h
    rw [List.pairwise_iff_forall_sublist]
    intro a b hab
    have ne : a ≠ b := by
      have := nd.sublist hab
      simpa using this
    apply Classical.byContradiction
    intro hn
    have := h [a, b] hab (by simp; omega)
    simp at this
  · intro h C hC cC
    exact tv_both (h.sublist hC) cC
theorem rn_dec {S : List Nat} (nd : S.Nodup) : gr_NB (fun a b => a < b) 1 S ↔ S.Pairwise (fun a b => b < a) := by
  constructor
  · intro h
    rw [List.pairwise_iff_forall_sublist]
    intro a b hab
    have ne : a ≠ b := by
      have := nd.sublist hab
      simpa using this
    apply Classical.byContradiction
    intro hn
    have := h [a, b] hab (by simp; omega)
    simp at this
  · intro h C hC cC
    exact tv_both cC (h.sublist hC)
theorem rn_falls {f : Nat → Nat} {b : Nat → Bool} {n M : Nat} (nd : (sl_l f b n).Nodup) (h : rn_M (fun a b => a < b) f b n M) : gr_M (fun a b => b < a) 1 (sl_l f b n) M := by
  refine ⟨?_, ?_⟩
  · obtain ⟨C, c1, c2, c3⟩ := h.2
    exact ⟨C, c1, c3, (rn_inc (nd.sublist c1)).mpr c2⟩
  · intro m hm
    obtain ⟨S, s1, s2, s3⟩ := hm
    rw [← s2]
    exact h.1 S s1 ((rn_inc (nd.sublist s1)).mp s3)
theorem rn_rises {f : Nat → Nat} {b : Nat → Bool} {n M : Nat} (nd : (sl_l f b n).Nodup) (h : rn_M (fun a b => b < a) f b n M) : gr_M (fun a b => a < b) 1 (sl_l f b n) M := by
  refine ⟨?_, ?_⟩
  · obtain ⟨C, c1, c2, c3⟩ := h.2
    exact ⟨C, c1, c3, (rn_dec (nd.sublist c1)).mpr c2⟩
  · intro m hm
    obtain ⟨S, s1, s2, s3⟩ := hm
    rw [← s2]
    exact h.1 S s1 ((rn_dec (nd.sublist s1)).mp s3)
end
