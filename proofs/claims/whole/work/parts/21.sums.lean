section
def sm_s (f : Nat → Nat) : Nat → Nat
  | 0 => 0
  | n + 1 => sm_s f n + f n
theorem sm_congr {f g : Nat → Nat} : ∀ n, (∀ i, i < n → f i = g i) → sm_s f n = sm_s g n := by
  intro n
  induction n with
  | zero => intro _; rfl
  | succ n ih => intro h; rw [sm_s, sm_s, ih (fun i hi => h i (by omega)), h n (by omega)]
theorem sm_le {f g : Nat → Nat} : ∀ n, (∀ i, i < n → f i ≤ g i) → sm_s f n ≤ sm_s g n := by
  intro n
  induction n with
  | zero => intro _; exact Nat.le_refl _
  | succ n ih =>
    intro h
    have h1 := ih (fun i hi => h i (by omega))
    have h2 := h n (by omega)
    simp only [sm_s]
    omega
theorem sm_add (f g : Nat → Nat) : ∀ n, sm_s (fun i => f i + g i) n = sm_s f n + sm_s g n := by
  intro n
  induction n with
  | zero => rfl
  | succ n ih => simp only [sm_s, ih]; omega
theorem sm_zero {f : Nat → Nat} : ∀ n, (∀ i, i < n → f i = 0) → sm_s f n = 0 := by
  intro n
  induction n with
  | zero => intro _; rfl
  | succ n ih => intro h; rw [sm_s, ih (fun i hi => h i (by omega)), h n (by omega)]
theorem sm_tail {f : Nat → Nat} {a : Nat} : ∀ d, (∀ i, a ≤ i → i < a + d → f i = 0) → sm_s f (a + d) = sm_s f a := by
  intro d
  induction d with
  | zero => intro _; rfl
  | succ d ih =>
    intro h
    show sm_s f (a + d) + f (a + d) = sm_s f a
    rw [ih (fun i h1 h2 => h i h1 (by omega)), h (a + d) (by omega) (by omega)]; rfl
theorem sm_one : ∀ n, sm_s (fun _ => 1) n = n := by
  intro n
  induction n with
  | zero => rfl
  | succ n ih => simp only [sm_s, ih]
theorem sm_swap (g : Nat → Nat → Nat) (b : Nat) : ∀ a, sm_s (fun i => sm_s (fun j => g i j) b) a = sm_s (fun j => sm_s (fun i => g i j) a) b := by
  intro a
  induction a with
  | zero => exact (sm_zero b (fun _ _ => rfl)).symm
  | succ a ih => simp only [sm_s, ih]; rw [sm_add]
theorem sm_delta (c : Nat) : ∀ n, sm_s (fun j => if c = j then 1 else 0) n = if c < n then 1 else 0 := by
  intro n
  induction n with
  | zero => rfl
  | succ n ih =>
    simp only [sm_s, ih]
    by_cases h : c < n
    · have h1 : ¬ c = n := by omega
      have h2 : c < n + 1 := by omega
      simp [h, h1, h2]
    · by_cases h1 : c = n
      · simp [h1]
      · have h2 : ¬ c < n + 1 := by omega
        simp [h, h1, h2]
theorem sm_cut (p : Nat → Nat) (k : Nat) : ∀ n, sm_s (fun j => if j < k then p j else 0) n = sm_s p (min k n) := by
  intro n
  induction n with
  | zero => rw [Nat.min_zero]; rfl
  | succ n ih =>
    simp only [sm_s, ih]
    by_cases h : n < k
    · rw [Nat.min_eq_right (by omega : n ≤ k), Nat.min_eq_right (by omega : n + 1 ≤ k)]
      simp [h, sm_s]
    · rw [Nat.min_eq_left (by omega : k ≤ n), Nat.min_eq_left (by omega : k ≤ n + 1)]
      simp [h]
/-- a falling list of places below n that all count has at most as many as the sum -/
theorem sm_len {f : Nat → Nat} : ∀ (n : Nat) (L : List Nat), L.Pairwise (fun a b => b < a) → (∀ x, x ∈ L → x < n ∧ f x = 1) → L.length ≤ sm_s f n := by
  intro n
  induction n with
  | zero =>
    intro L _ h
    cases L with
    | nil => exact Nat.le_refl _
    | cons a L => exact absurd (h a (by simp)).1 (by omega)
  | succ n ih =>
    intro L hp h
    cases L with
    | nil => exact Nat.zero_le _
    | cons a L =>
      obtain ⟨ha, hL⟩ := List.pairwise_cons.mp hp
      have h1 := h a (by simp)
      by_cases e : a = n
      · have h2 := ih L hL (fun x hx => ⟨by have := ha x hx; omega, (h x (by simp [hx])).2⟩)
        rw [e] at h1
        simp only [sm_s, List.length_cons, h1.2]
        omega
      · have h2 := ih (a :: L) hp (fun x hx => ⟨by
          rcases List.mem_cons.mp hx with e2 | hx
          · omega
          · have := ha x hx; omega, (h x hx).2⟩)
        simp only [sm_s]
        omega
theorem sm_lenK {n : Nat} {L : List Nat} (hp : L.Pairwise (fun a b => a < b)) (h : ∀ x, x ∈ L → x < n) : L.length ≤ n := by
  have h1 := sm_len (f := fun _ => 1) n L.reverse (List.pairwise_reverse.mpr hp) (fun x hx => ⟨h x (by simpa using hx), rfl⟩)
  rw [sm_one] at h1
  simpa using h1
/-- a closed row of at most ten: what is at most k and at most the whole is at most the first k -/
theorem sm_cl {f : Nat → Nat} (h01 : ∀ j, f j ≤ 1) (cl : ∀ j, j + 1 < 10 → f (j + 1) = 1 → f j = 1) {k s : Nat} (h1 : s ≤ k) (h2 : s ≤ sm_s f 10) : s ≤ sm_s f (min k 10) := by
  by_cases hk : 10 ≤ k
  · rw [Nat.min_eq_right hk]; exact h2
  · rw [Nat.min_eq_left (by omega)]
    have P : ∀ a, a ≤ 10 → sm_s f a = a ∨ ∀ j, a ≤ j → j < 10 → f j = 0 := by
      intro a
      induction a with
      | zero => intro _; exact Or.inl rfl
      | succ a ih =>
        intro ha
        rcases ih (by omega) with e | e
        · by_cases ea : f a = 1
          · exact Or.inl (by simp only [sm_s, e, ea])
          · right
            have z : f a = 0 := by have := h01 a; omega
            intro j hj
            have Q : ∀ d, a + d < 10 → f (a + d) = 0 := by
              intro d
              induction d with
              | zero => intro _; exact z
              | succ d ihd =>
                intro hd
                have hq := ihd (by omega)
                have hc := cl (a + d) (by omega)
                have hb := h01 (a + d + 1)
                have e3 : a + (d + 1) = a + d + 1 := rfl
                rw [e3]
                by_cases e4 : f (a + d + 1) = 1
                · have := hc e4; omega
                · omega
            intro hj2
            have := Q (j - a) (by omega)
            rwa [show a + (j - a) = j by omega] at this
        · exact Or.inr (fun j hj hj2 => e j (by omega) hj2)
    rcases P k (by omega) with e | e
    · omega
    · have e2 := sm_tail (f := f) (a := k) (10 - k) (fun i ha hb => e i ha (by omega))
      rw [show k + (10 - k) = 10 by omega] at e2
      omega
end
