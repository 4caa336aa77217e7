section
theorem sm_pick (k v : Nat) : ∀ n, sm_s (fun q => if k = q then v else 0) n = if k < n then v else 0 := by
  intro n
  induction n with
  | zero => rfl
  | succ n ih =>
    simp only [sm_s, ih]
    by_cases h : k < n
    · have h1 : ¬ k = n := by omega
      have h2 : k < n + 1 := by omega
      simp [h, h1, h2]
    · by_cases h1 : k = n
      · simp [h1]
      · have h2 : ¬ k < n + 1 := by omega
        simp [h, h1, h2]
theorem sm_s0 {f : Nat → Nat} : ∀ n, sm_s f n = 0 → ∀ i, i < n → f i = 0 := by
  intro n
  induction n with
  | zero => intro _ i hi; omega
  | succ n ih =>
    intro h i hi
    rw [sm_s] at h
    by_cases e : i = n
    · rw [e]; omega
    · exact ih (by omega) i (by omega)
def mx_fb (s : Nat → Nat) (x : Nat) : Bool := (List.range 10).all (fun k => decide (mx_d s x (k + 1) ≤ mx_d s x k))
theorem mx_fbI {s : Nat → Nat} {x : Nat} : mx_fb s x = true ↔ hk_fall (mx_d s x) := by
  unfold mx_fb hk_fall
  rw [List.all_eq_true]
  constructor
  · intro h k hk
    simpa using h k (List.mem_range.mpr hk)
  · intro h k hk
    simpa using h k (List.mem_range.mp hk)
/-- ways to fill up to the shape that x stands for -/
def mx_G (s : Nat → Nat) (x : Nat) : Nat := if mx_fb s x = true then hk_F (mx_d s x) else 0
def mx_m (s : Nat → Nat) (y q : Nat) : Bool := decide (mx_d s y q < s q) && (decide (q = 0) || decide (mx_d s y q < mx_d s y (q - 1)))
theorem mx_mI {s : Nat → Nat} {y q : Nat} : mx_m s y q = true ↔ mx_d s y q < s q ∧ (q = 0 ∨ mx_d s y q < mx_d s y (q - 1)) := by
  unfold mx_m
  rw [Bool.and_eq_true, Bool.or_eq_true, decide_eq_true_eq, decide_eq_true_eq, decide_eq_true_eq]
def mx_t (s : Nat → Nat) (y q : Nat) : Nat := if mx_w s q ≤ y ∧ mx_m s (y - mx_w s q) q = true then mx_G s (y - mx_w s q) else 0
theorem mx_term {s : Nat → Nat} {x : Nat} (h10 : s 10 = 0) (P : hk_fall (mx_d s x)) {q : Nat} (hq : q < 11) : mx_t s x q = if mx_d s x (q + 1) < mx_d s x q then hk_F (hk_m (mx_d s x) q) else 0 := by
  have hd10 : mx_d s x 10 = 0 := by have := mx_le s x 10; omega
  by_cases z : 0 < mx_d s x q
  · obtain ⟨h1, h2, h3⟩ := mx_dn z
    have q10 : q < 10 := by
      apply Classical.byContradiction
      intro hn
      have : q = 10 := by omega
      rw [this] at z
      omega
    have hq0 := h3 q
    rw [if_pos rfl] at hq0
    have hm : mx_m s (x - mx_w s q) q = true := by
      rw [mx_mI]
      refine ⟨h2, ?_⟩
      by_cases e : q = 0
      · exact Or.inl e
      · right
        have a := h3 (q - 1)
        rw [if_neg (by omega)] at a
        have b := P (q - 1) (by omega)
        rw [show q - 1 + 1 = q by omega] at b
        omega
    rw [mx_t, if_pos ⟨h1, hm⟩]
    have hn1 := h3 (q + 1)
    rw [if_neg (by omega)] at hn1
    by_cases c : mx_d s x (q + 1) < mx_d s x q
    · rw [if_pos c, mx_G, if_pos]
      · refine hk_FC (fun i _ => ?_)
        unfold hk_m
        have a := h3 i
        by_cases e : i = q
        · rw [if_pos e] at a ⊢; omega
        · rw [if_neg e] at a ⊢; omega
      · rw [mx_fbI]
        intro k hk
        have a := h3 k
        have b := h3 (k + 1)
        have p := P k hk
        by_cases e : k = q
        · rw [e] at a b p ⊢
          omega
        · rw [if_neg e] at a
          omega
    · rw [if_neg c, mx_G, if_neg]
      intro hf
      have hf := mx_fbI.mp hf q q10
      omega
  · rw [if_neg (by omega), mx_t, if_neg]
    intro ⟨h1, h2⟩
    have h2 := (mx_mI.mp h2).1
    have u := mx_up h2 q
    rw [Nat.sub_add_cancel h1, if_pos rfl] at u
    omega
theorem mx_rec {s : Nat → Nat} {x : Nat} (h10 : s 10 = 0) (hs : sm_s s 10 ≤ 10) (hx : x < mx_w s 11) : mx_G s x = (if x = 0 then 1 else 0) + sm_s (mx_t s x) 11 := by
  have hd10 : mx_d s x 10 = 0 := by have := mx_le s x 10; omega
  have hsum : sm_s (mx_d s x) 10 ≤ 10 := Nat.le_trans (sm_le 10 (fun i _ => mx_le s x i)) hs
  by_cases P : hk_fall (mx_d s x)
  · have eT : sm_s (mx_t s x) 11 = hk_R (mx_d s x) := by
      rw [sm_congr 11 (fun q hq => mx_term h10 P hq), sm_s, if_neg (by omega)]
      rfl
    rw [eT, mx_G, if_pos (mx_fbI.mpr P)]
    have r := hk_rec P hd10 hsum
    by_cases z : sm_s (mx_d s x) 10 = 0
    · have z0 := sm_s0 10 z
      have x0 : x = 0 := by
        have h := mx_z (s := s) (x := x) 11 (fun k hk => by
          by_cases e : k = 10
          · rw [e]; exact hd10
          · exact z0 k (by omega))
        rwa [Nat.mod_eq_of_lt hx] at h
      rw [r.1 z, if_pos x0]
      have : hk_R (mx_d s x) = 0 := sm_zero 10 (fun k hk => if_neg (by have := z0 k hk; omega))
      rw [this]
    · have x0 : ¬ x = 0 := by
        intro e
        apply z
        refine sm_zero 10 (fun k _ => ?_)
        rw [e]
        unfold mx_d
        rw [Nat.zero_div, Nat.zero_mod]
      rw [r.2 z, if_neg x0, Nat.zero_add]
  · rw [mx_G, if_neg (fun h => P (mx_fbI.mp h)), if_neg, Nat.zero_add]
    · refine (sm_zero 11 (fun q hq => ?_)).symm
      unfold mx_t
      by_cases c : mx_w s q ≤ x ∧ mx_m s (x - mx_w s q) q = true
      · rw [if_pos c, mx_G, if_neg]
        intro hf
        apply P
        have hf := mx_fbI.mp hf
        have hm := mx_mI.mp c.2
        intro k hk
        have u1 := mx_up hm.1 k
        have u2 := mx_up hm.1 (k + 1)
        rw [Nat.sub_add_cancel c.1] at u1 u2
        have p := hf k hk
        by_cases e : k + 1 = q
        · subst e
          rw [if_pos rfl] at u2
          rcases hm.2 with z | z
          · omega
          · rw [Nat.add_sub_cancel] at z
            omega
        · rw [if_neg e] at u2
          omega
      · exact if_neg c
    · intro e
      apply P
      intro k _
      rw [e]
      unfold mx_d
      rw [Nat.zero_div, Nat.zero_mod]
      exact Nat.zero_le _
/-- what ways[y] holds when the loops stand at x and k -/
def mx_A (s : Nat → Nat) (x k y : Nat) : Nat := (if y = 0 then 1 else 0) + sm_s (fun q => if y < x + mx_w s q ∨ (y = x + mx_w s q ∧ q < k) then mx_t s y q else 0) 11
theorem mx_Ag {s : Nat → Nat} (h10 : s 10 = 0) (hs : sm_s s 10 ≤ 10) {x k y : Nat} (hy : y ≤ x) (hx : y < mx_w s 11) : mx_A s x k y = mx_G s y := by
  rw [mx_rec h10 hs hx, mx_A]
  congr 1
  exact sm_congr 11 (fun q _ => if_pos (Or.inl (by have := mx_pos s q; omega)))
theorem mx_A0 (s : Nat → Nat) (y : Nat) : mx_A s 0 0 y = if y = 0 then 1 else 0 := by
  rw [mx_A, sm_zero, Nat.add_zero]
  intro q _
  by_cases c : y < 0 + mx_w s q ∨ (y = 0 + mx_w s q ∧ q < 0)
  · rw [if_pos c, mx_t, if_neg (by omega)]
  · exact if_neg c
theorem mx_An (s : Nat → Nat) (x y : Nat) : mx_A s x 11 y = mx_A s (x + 1) 0 y := by
  unfold mx_A
  congr 1
  refine sm_congr 11 (fun q hq => ?_)
  by_cases c : y < x + mx_w s q ∨ (y = x + mx_w s q ∧ q < 11)
  · rw [if_pos c, if_pos (by omega)]
  · rw [if_neg c, if_neg (by omega)]
theorem mx_Ak (s : Nat → Nat) {x k : Nat} (hk : k < 11) (y : Nat) : mx_A s x (k + 1) y = mx_A s x k y + (if y = x + mx_w s k then mx_t s y k else 0) := by
  unfold mx_A
  have e : sm_s (fun q => if k = q then (if y = x + mx_w s k then mx_t s y k else 0) else 0) 11 = if y = x + mx_w s k then mx_t s y k else 0 := by
    rw [sm_pick, if_pos hk]
  rw [← e, Nat.add_assoc, ← sm_add]
  congr 1
  refine sm_congr 11 (fun q _ => ?_)
  by_cases ek : k = q
  · rw [← ek, if_pos rfl]
    by_cases c : y < x + mx_w s k
    · rw [if_pos (Or.inl c), if_pos (Or.inl c), if_neg (by omega), Nat.add_zero]
    · by_cases c2 : y = x + mx_w s k
      · rw [if_pos (by omega), if_neg (by omega), if_pos c2, Nat.zero_add]
      · rw [if_neg (by omega), if_neg (by omega), if_neg c2]
  · rw [if_neg ek]
    by_cases c : y < x + mx_w s q ∨ (y = x + mx_w s q ∧ q < k)
    · rw [if_pos c, if_pos (by omega), Nat.add_zero]
    · rw [if_neg c, if_neg (by omega)]
theorem mx_tx (s : Nat → Nat) (x k : Nat) : mx_t s (x + mx_w s k) k = if mx_m s x k = true then mx_G s x else 0 := by
  unfold mx_t
  rw [Nat.add_sub_cancel]
  by_cases c : mx_m s x k = true
  · rw [if_pos ⟨by omega, c⟩, if_pos c]
  · rw [if_neg (fun h => c h.2), if_neg c]
theorem mx_Gend {s : Nat → Nat} (hf : hk_fall s) : mx_G s (mx_w s 11 - 1) = hk_F s := by
  have e : ∀ k, k < 11 → mx_d s (mx_w s 11 - 1) k = s k := fun k hk => mx_last hk
  rw [mx_G, if_pos]
  · exact hk_FC (fun i hi => e i (by omega))
  · rw [mx_fbI]
    intro k hk
    rw [e k (by omega), e (k + 1) (by omega)]
    exact hf k hk
theorem mx_Gb {s : Nat → Nat} {x : Nat} (hs : sm_s s 10 ≤ 10) : mx_G s x < 1000000 := by
  unfold mx_G
  by_cases c : mx_fb s x = true
  · rw [if_pos c]
    exact (hk_facts (mx_fbI.mp c) (Nat.le_trans (sm_le 10 (fun i _ => mx_le s x i)) hs)).2.1
  · rw [if_neg c]; omega
/-- a closed row: filled just below its length -/
theorem sm_clI {f : Nat → Nat} (h01 : ∀ j, f j ≤ 1) (cl : ∀ j, j + 1 < 10 → f (j + 1) = 1 → f j = 1) {j : Nat} (hj : j < 10) : f j = if j < sm_s f 10 then 1 else 0 := by
  by_cases e : f j = 1
  · have al : ∀ d, d ≤ j → f (j - d) = 1 := by
      intro d
      induction d with
      | zero => intro _; exact e
      | succ d ih =>
        intro hd
        have h1 := ih (by omega)
        refine cl (j - (d + 1)) (by omega) ?_
        rwa [show j - (d + 1) + 1 = j - d by omega]
    have h1 : sm_s f (j + 1) = j + 1 := by
      rw [sm_congr (g := fun _ => 1) (j + 1) (fun i hi => by
        have := al (j - i) (by omega)
        rwa [show j - (j - i) = i by omega] at this), sm_one]
    have h2 := sm_split f (j + 1) (10 - (j + 1))
    rw [show j + 1 + (10 - (j + 1)) = 10 by omega] at h2
    rw [e, if_pos (by omega)]
  · have z : f j = 0 := by have := h01 j; omega
    have al : ∀ d, j + d < 10 → f (j + d) = 0 := by
      intro d
      induction d with
      | zero => intro _; exact z
      | succ d ih =>
        intro hd
        have h1 := ih (by omega)
        have h2 := cl (j + d) (by omega)
        have h3 := h01 (j + d + 1)
        show f (j + d + 1) = 0
        by_cases e2 : f (j + d + 1) = 1
        · have := h2 e2; omega
        · omega
    have h1 := sm_tail (f := f) (a := j) (10 - j) (fun i a b => by
      have := al (i - j) (by omega)
      rwa [show j + (i - j) = i by omega] at this)
    rw [show j + (10 - j) = 10 by omega] at h1
    have h2 : sm_s f j ≤ j := by
      have := sm_le (f := f) (g := fun _ => 1) j (fun i _ => h01 i)
      rwa [sm_one] at this
    rw [z, if_neg (by omega)]
end
