section
theorem sm_split (g : Nat → Nat) (a : Nat) : ∀ b, sm_s g (a + b) = sm_s g a + sm_s (fun i => g (a + i)) b := by
  intro b
  induction b with
  | zero => rfl
  | succ b ih =>
    show sm_s g (a + b) + g (a + b) = _
    rw [ih, sm_s, Nat.add_assoc]
/-- rising choices of m of the places below e, all numbers below L -/
def lr_P (f : Nat → Nat) : Nat → Nat → Nat → Nat
  | 0, _, 0 => 1
  | 0, _, _ + 1 => 0
  | _ + 1, _, 0 => 1
  | e + 1, L, m + 1 => lr_P f e L (m + 1) + (if f e < L then lr_P f e (f e) m else 0)
theorem lr_P0 (f : Nat → Nat) (e L : Nat) : lr_P f e L 0 = 1 := by cases e <;> simp [lr_P]
theorem lr_Pz (f : Nat → Nat) (L m : Nat) : lr_P f 0 L (m + 1) = 0 := by simp [lr_P]
theorem lr_Ps (f : Nat → Nat) (e L m : Nat) : lr_P f (e + 1) L (m + 1) = lr_P f e L (m + 1) + (if f e < L then lr_P f e (f e) m else 0) := by rw [lr_P]
theorem lr_Pb (f : Nat → Nat) : ∀ e L m, lr_P f e L m ≤ 2 ^ e := by
  intro e
  induction e with
  | zero =>
    intro L m
    cases m with
    | zero => rw [lr_P0]; exact Nat.le_refl _
    | succ m => rw [lr_Pz]; exact Nat.zero_le _
  | succ e ih =>
    intro L m
    rw [Nat.pow_succ]
    cases m with
    | zero =>
      rw [lr_P0]
      have := Nat.two_pow_pos e
      omega
    | succ m =>
      rw [lr_Ps]
      have h1 := ih L (m + 1)
      have h2 := ih (f e) m
      split <;> omega
def lr_D (f : Nat → Nat) (l L lo wy : Nat) : Prop := wy = lr_P f l L lo ∧ 0 < wy ∧ ∀ m, lo < m → lr_P f l L m = 0
theorem lr_D0 (f : Nat → Nat) (L : Nat) : lr_D f 0 L 0 1 := by
  refine ⟨(lr_P0 f 0 L).symm, by omega, fun m hm => ?_⟩
  cases m with
  | zero => omega
  | succ m => exact lr_Pz f L m
theorem lr_Dn {f : Nat → Nat} {l L lo wy : Nat} (h : lr_D f l L lo wy) (hn : ¬ f l < L) : lr_D f (l + 1) L lo wy := by
  have e : ∀ m, lr_P f (l + 1) L m = lr_P f l L m := by
    intro m
    cases m with
    | zero => rw [lr_P0, lr_P0]
    | succ m => rw [lr_Ps, if_neg hn, Nat.add_zero]
  exact ⟨by rw [e]; exact h.1, h.2.1, fun m hm => by rw [e]; exact h.2.2 m hm⟩
theorem lr_Dg {f : Nat → Nat} {l L lo wy a b : Nat} (h : lr_D f l L lo wy) (hl : f l < L) (g : lr_D f l (f l) a b) (lt : lo < a + 1) : lr_D f (l + 1) L (a + 1) b := by
  refine ⟨?_, g.2.1, fun m hm => ?_⟩
  · rw [lr_Ps, if_pos hl, h.2.2 (a + 1) lt, ← g.1, Nat.zero_add]
  · cases m with
    | zero => omega
    | succ m => rw [lr_Ps, if_pos hl, h.2.2 (m + 1) (by omega), g.2.2 m (by omega)]
theorem lr_De {f : Nat → Nat} {l L lo wy a b : Nat} (h : lr_D f l L lo wy) (hl : f l < L) (g : lr_D f l (f l) a b) (eq : lo = a + 1) : lr_D f (l + 1) L lo (wy + b) := by
  rw [eq] at h ⊢
  refine ⟨?_, by have := h.2.1; omega, fun m hm => ?_⟩
  · rw [lr_Ps, if_pos hl, ← h.1, ← g.1]
  · cases m with
    | zero => omega
    | succ m => rw [lr_Ps, if_pos hl, h.2.2 (m + 1) (by omega), g.2.2 m (by omega)]
theorem lr_Dl {f : Nat → Nat} {l L lo wy a b : Nat} (h : lr_D f l L lo wy) (hl : f l < L) (g : lr_D f l (f l) a b) (lt : a + 1 < lo) : lr_D f (l + 1) L lo wy := by
  refine ⟨?_, h.2.1, fun m hm => ?_⟩
  · cases lo with
    | zero => omega
    | succ lo => rw [lr_Ps, if_pos hl, ← h.1, g.2.2 lo (by omega), Nat.add_zero]
  · cases m with
    | zero => omega
    | succ m => rw [lr_Ps, if_pos hl, h.2.2 (m + 1) (by omega), g.2.2 m (by omega)]
theorem lr_Du {f : Nat → Nat} {l L lo wy lo' wy' : Nat} (h : lr_D f l L lo wy) (g : lr_D f l L lo' wy') : wy = wy' := by
  have e : lo = lo' := by
    apply Classical.byContradiction
    intro hn
    by_cases lt : lo < lo'
    · have h1 := h.2.2 lo' lt
      have h2 := g.1
      have h3 := g.2.1
      omega
    · have h1 := g.2.2 lo (by omega)
      have h2 := h.1
      have h3 := h.2.1
      omega
  rw [h.1, g.1, e]
theorem lr_Db {f : Nat → Nat} {l L lo wy : Nat} (h : lr_D f l L lo wy) : wy ≤ 2 ^ l := by rw [h.1]; exact lr_Pb f l L lo
theorem lr_Pl (f : Nat → Nat) : ∀ e L m, e < m → lr_P f e L m = 0 := by
  intro e
  induction e with
  | zero =>
    intro L m hm
    cases m with
    | zero => omega
    | succ m => exact lr_Pz f L m
  | succ e ih =>
    intro L m hm
    cases m with
    | zero => omega
    | succ m =>
      rw [lr_Ps, ih L (m + 1) (by omega), ih (f e) m (by omega)]
      split <;> rfl
theorem lr_Dlo {f : Nat → Nat} {l L lo wy : Nat} (h : lr_D f l L lo wy) : lo ≤ l := by
  apply Classical.byContradiction
  intro hn
  have h1 := lr_Pl f l L lo (by omega)
  have h2 := h.1
  have h3 := h.2.1
  omega
def lr_r (f : Nat → Nat) (p : Nat → Bool) : Nat → Nat → Bool
  | 0, _ => true
  | e + 1, L => if p e = true then decide (f e < L) && lr_r f p e (f e) else lr_r f p e L
theorem lr_rc {f : Nat → Nat} {p p' : Nat → Bool} : ∀ e L, (∀ i, i < e → p i = p' i) → lr_r f p e L = lr_r f p' e L := by
  intro e
  induction e with
  | zero => intro L _; rfl
  | succ e ih =>
    intro L h
    rw [lr_r, lr_r, h e (by omega), ih L (fun i hi => h i (by omega)), ih (f e) (fun i hi => h i (by omega))]
theorem lr_ri {f : Nat → Nat} {p : Nat → Bool} : ∀ e L, lr_r f p e L = true ↔ (sl_l f p e).Pairwise (fun a b => a < b) ∧ ∀ x, x ∈ sl_l f p e → x < L := by
  intro e
  induction e with
  | zero => intro L; simp [lr_r, sl_l]
  | succ e ih =>
    intro L
    by_cases h : p e = true
    · rw [lr_r, if_pos h, sl_t h, Bool.and_eq_true, decide_eq_true_eq, ih (f e), List.pairwise_append]
      constructor
      · intro ⟨h1, h2, h3⟩
        refine ⟨⟨h2, by simp, fun a ha b hb => by rw [List.mem_singleton.mp hb]; exact h3 a ha⟩, fun x hx => ?_⟩
        rcases List.mem_append.mp hx with hx | hx
        · have := h3 x hx; omega
        · rw [List.mem_singleton.mp hx]; exact h1
      · intro ⟨⟨h1, _, h3⟩, h4⟩
        exact ⟨h4 (f e) (by simp), h1, fun x hx => h3 x hx (f e) (by simp)⟩
    · rw [lr_r, if_neg h, sl_f h, ih L]
def lr_q (f : Nat → Nat) (e L m p : Nat) : Nat := if lr_r f p.testBit e L = true ∧ (sl_l f p.testBit e).length = m then 1 else 0
theorem lr_cnt (f : Nat → Nat) : ∀ e L m, sm_s (lr_q f e L m) (2 ^ e) = lr_P f e L m := by
  intro e
  induction e with
  | zero =>
    intro L m
    show 0 + lr_q f 0 L m 0 = _
    cases m with
    | zero => rw [lr_P0]; rfl
    | succ m => rw [lr_Pz]; rfl
  | succ e ih =>
    intro L m
    rw [Nat.pow_succ, Nat.mul_two, sm_split]
    have h1 : sm_s (lr_q f (e + 1) L m) (2 ^ e) = lr_P f e L m := by
      rw [← ih L m]
      refine sm_congr _ (fun p hp => ?_)
      have z : ¬ p.testBit e = true := by rw [sl_bitZ hp]; decide
      unfold lr_q
      rw [lr_r, if_neg z, sl_f z]
    have h2 : ∀ p, p < 2 ^ e → lr_q f (e + 1) L m (2 ^ e + p) = if (f e < L ∧ lr_r f p.testBit e (f e) = true) ∧ (sl_l f p.testBit e).length + 1 = m then 1 else 0 := by
      intro p hp
      have o : (2 ^ e + p).testBit e = true := by rw [sl_bitO, sl_bitZ hp]; rfl
      unfold lr_q
      rw [lr_r, if_pos o, sl_t o, lr_rc (p := (2 ^ e + p).testBit) (p' := p.testBit) e (f e) (fun i hi => sl_bitL hi), sl_congr (f := f) (f' := f) (b := (2 ^ e + p).testBit) (b' := p.testBit) e (fun i hi => ⟨sl_bitL hi, rfl⟩), List.length_append, List.length_singleton]
      simp only [Bool.and_eq_true, decide_eq_true_eq]
    rw [h1, sm_congr (2 ^ e) h2]
    cases m with
    | zero =>
      rw [sm_zero (2 ^ e) (fun p _ => if_neg (by omega)), lr_P0, lr_P0]
    | succ m =>
      rw [lr_Ps]
      congr 1
      by_cases hl : f e < L
      · rw [if_pos hl, ← ih (f e) m]
        refine sm_congr _ (fun p _ => ?_)
        unfold lr_q
        simp only [hl, true_and, Nat.add_right_cancel_iff]
      · rw [if_neg hl]
        exact sm_zero _ (fun p _ => if_neg (fun h => hl h.1.1))
/-- the reference's loop over the masks -/
def lr_K (f : Nat → Nat) (n p M c : Nat) : Prop := (∀ q, q < p → lr_r f q.testBit n 100 = true → (sl_l f q.testBit n).length ≤ M) ∧ c = sm_s (lr_q f n 100 M) p ∧ (M = 0 ∨ 0 < c)
theorem lr_K0 (f : Nat → Nat) (n : Nat) : lr_K f n 0 0 0 := ⟨fun q hq => absurd hq (by omega), rfl, Or.inl rfl⟩
theorem lr_Kg {f : Nat → Nat} {n p M c : Nat} (h : lr_K f n p M c) (r : lr_r f p.testBit n 100 = true) (lt : M < (sl_l f p.testBit n).length) : lr_K f n (p + 1) (sl_l f p.testBit n).length 1 := by
  refine ⟨fun q hq hr => ?_, ?_, Or.inr (by omega)⟩
  · by_cases e : q = p
    · rw [e]; exact Nat.le_refl _
    · have := h.1 q (by omega) hr; omega
  · have z : sm_s (lr_q f n 100 (sl_l f p.testBit n).length) p = 0 := sm_zero p (fun q hq => if_neg (fun hh => by have := h.1 q hq hh.1; omega))
    rw [sm_s, z, lr_q, if_pos ⟨r, rfl⟩]
theorem lr_Ke {f : Nat → Nat} {n p M c : Nat} (h : lr_K f n p M c) (r : lr_r f p.testBit n 100 = true) (eq : (sl_l f p.testBit n).length = M) : lr_K f n (p + 1) M (c + 1) := by
  refine ⟨fun q hq hr => ?_, ?_, Or.inr (by omega)⟩
  · by_cases e : q = p
    · rw [e, eq]; exact Nat.le_refl _
    · exact h.1 q (by omega) hr
  · rw [sm_s, ← h.2.1]
    exact congrArg _ (if_pos ⟨r, eq⟩).symm
theorem lr_Kn {f : Nat → Nat} {n p M c : Nat} (h : lr_K f n p M c) (o : lr_r f p.testBit n 100 = true → (sl_l f p.testBit n).length < M) : lr_K f n (p + 1) M c := by
  refine ⟨fun q hq hr => ?_, ?_, h.2.2⟩
  · by_cases e : q = p
    · rw [e] at hr ⊢; have := o hr; omega
    · exact h.1 q (by omega) hr
  · rw [sm_s, ← h.2.1, lr_q, if_neg (fun hh => by have := o hh.1; omega), Nat.add_zero]
theorem lr_Kx {f : Nat → Nat} {n M c : Nat} (h : lr_K f n (2 ^ n) M c) : lr_D f n 100 M c := by
  have e := h.2.1
  rw [lr_cnt] at e
  refine ⟨e, ?_, fun m hm => ?_⟩
  · rcases h.2.2 with z | z
    · rw [e, z, lr_P0]; omega
    · exact z
  · rw [← lr_cnt]
    exact sm_zero _ (fun q hq => if_neg (fun hh => by have := h.1 q hq hh.1; omega))
theorem lr_iff {f : Nat → Nat} {p : Nat → Bool} {n : Nat} (inj : ∀ i j, i < n → j < n → f i = f j → i = j) (h100 : ∀ i, i < n → f i < 100) : gr_NB (fun a b => b < a) 1 (sl_l f p n) ↔ lr_r f p n 100 = true := by
  rw [rn_inc (sl_nd inj), lr_ri]
  refine ⟨fun h => ⟨h, fun x hx => ?_⟩, fun h => h.1⟩
  obtain ⟨i, h1, _, h3⟩ := sl_mem hx
  rw [h3]
  exact h100 i h1
end
