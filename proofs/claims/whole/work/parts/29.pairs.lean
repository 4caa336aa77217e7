section
def iv_g (f : Nat → Nat) (i j : Nat) : Nat := if f j < f i then 1 else 0
theorem iv_eq (f : Nat → Nat) (n : Nat) : sm_s (fun i => sm_s (fun j => if i < j then iv_g f i j else 0) n) n = sm_s (fun i => sm_s (fun j => iv_g f j i) i) n := by
  rw [sm_swap]
  refine sm_congr n (fun i hi => ?_)
  have h := sm_cut (fun j => iv_g f j i) i n
  rw [Nat.min_eq_left (by omega)] at h
  exact h
theorem iv_b (f : Nat → Nat) (i n : Nat) : sm_s (fun j => iv_g f j i) n ≤ n := by
  have := sm_le (f := fun j => iv_g f j i) (g := fun _ => 1) n (fun j _ => by unfold iv_g; split <;> omega)
  rwa [sm_one] at this
end
