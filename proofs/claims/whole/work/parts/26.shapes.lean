section
def pr_p (f : Nat → Nat) : Nat → Nat
  | 0 => 1
  | n + 1 => pr_p f n * f n
theorem pr_congr {f g : Nat → Nat} : ∀ n, (∀ i, i < n → f i = g i) → pr_p f n = pr_p g n := by
  intro n
  induction n with
  | zero => intro _; rfl
  | succ n ih => intro h; rw [pr_p, pr_p, ih (fun i hi => h i (by omega)), h n (by omega)]
def hk_h (mu : Nat → Nat) (i j : Nat) : Nat := 1 + sm_s (fun c => if j < c ∧ c < mu i then 1 else 0) 10 + sm_s (fun r => if i < r ∧ j < mu r then 1 else 0) 10
def hk_p (mu : Nat → Nat) : Nat := pr_p (fun i => pr_p (fun j => if j < mu i then hk_h mu i j else 1) 10) 10
def hk_n : Nat → Nat
  | 0 => 1
  | n + 1 => hk_n n * (n + 1)
def hk_F (mu : Nat → Nat) : Nat := hk_n (sm_s mu 10) / hk_p mu
theorem hk_hC {mu nu : Nat → Nat} (h : ∀ i, i < 10 → mu i = nu i) {i : Nat} (hi : i < 10) (j : Nat) : hk_h mu i j = hk_h nu i j := by
  unfold hk_h
  rw [h i hi, sm_congr (f := fun r => if i < r ∧ j < mu r then 1 else 0) (g := fun r => if i < r ∧ j < nu r then 1 else 0) 10 (fun r hr => by rw [h r hr])]
theorem hk_pC {mu nu : Nat → Nat} (h : ∀ i, i < 10 → mu i = nu i) : hk_p mu = hk_p nu := by
  unfold hk_p
  refine pr_congr 10 (fun i hi => pr_congr 10 (fun j _ => ?_))
  rw [h i hi, hk_hC h hi j]
theorem hk_FC {mu nu : Nat → Nat} (h : ∀ i, i < 10 → mu i = nu i) : hk_F mu = hk_F nu := by
  unfold hk_F
  rw [sm_congr 10 h, hk_pC h]
/-- all falling lists of d numbers, the first at most b, with a sum of at most r -/
def hk_g : Nat → Nat → Nat → List (List Nat)
  | 0, _, _ => [[]]
  | d + 1, b, r => (List.range (b + 1)).flatMap (fun a => if a ≤ r then (hk_g d a (r - a)).map (fun l => a :: l) else [])
theorem hk_gm : ∀ (d b r : Nat) (mu : Nat → Nat), (∀ k, k + 1 < d → mu (k + 1) ≤ mu k) → (0 < d → mu 0 ≤ b) → sm_s mu d ≤ r → ((List.range d).map mu) ∈ hk_g d b r := by
  intro d
  induction d with
  | zero => intro b r mu _ _ _; simp [hk_g]
  | succ d ih =>
    intro b r mu h1 h2 h3
    have e : sm_s mu (d + 1) = mu 0 + sm_s (fun i => mu (i + 1)) d := by
      have := sm_split mu 1 d
      rw [Nat.add_comm 1 d] at this
      rw [this]
      have e2 : sm_s mu 1 = mu 0 := by simp [sm_s]
      rw [e2]
      congr 1
      exact sm_congr d (fun i _ => by rw [Nat.add_comm])
    have e3 : (List.range (d + 1)).map mu = mu 0 :: (List.range d).map (fun i => mu (i + 1)) := by
      rw [List.range_succ_eq_map, List.map_cons, List.map_map]
      rfl
    rw [e3, hk_g, List.mem_flatMap]
    refine ⟨mu 0, List.mem_range.mpr (by have := h2 (by omega); omega), ?_⟩
    rw [if_pos (by omega), List.mem_map]
    refine ⟨_, ih (mu 0) (r - mu 0) (fun i => mu (i + 1)) (fun k hk => h1 (k + 1) (by omega)) (fun hd => h1 0 (by omega)) (by omega), rfl⟩
def hk_a (l : List Nat) (i : Nat) : Nat := l.getD i 0
def hk_m (mu : Nat → Nat) (k : Nat) : Nat → Nat := fun i => if i = k then mu i - 1 else mu i
def hk_R (mu : Nat → Nat) : Nat := sm_s (fun k => if mu (k + 1) < mu k then hk_F (hk_m mu k) else 0) 10
def hk_ck (l : List Nat) : Bool := decide (0 < hk_F (hk_a l)) && decide (hk_F (hk_a l) < 1000000) && decide (0 < hk_p (hk_a l)) && decide (hk_p (hk_a l) < 10000000) && (if sm_s (hk_a l) 10 = 0 then decide (hk_F (hk_a l) = 1) else decide (hk_F (hk_a l) = hk_R (hk_a l)))
theorem hk_all : (hk_g 10 10 10).all hk_ck = true := by decide +kernel
end
