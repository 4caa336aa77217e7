section
def hk_fall (mu : Nat → Nat) : Prop := ∀ k, k < 10 → mu (k + 1) ≤ mu k
theorem hk_tab {mu : Nat → Nat} (h : hk_fall mu) (hs : sm_s mu 10 ≤ 10) : hk_ck ((List.range 10).map mu) = true := by
  have h0 : mu 0 ≤ 10 := by
    have e : sm_s mu 10 = mu 0 + sm_s (fun i => mu (1 + i)) 9 := by
      have := sm_split mu 1 9
      have e2 : sm_s mu 1 = mu 0 := by simp [sm_s]
      rw [e2] at this
      exact this
    omega
  exact List.all_eq_true.mp hk_all _ (hk_gm 10 10 10 mu (fun k hk => h k (by omega)) (fun _ => h0) hs)
theorem hk_aeq (mu : Nat → Nat) {i : Nat} (hi : i < 10) : hk_a ((List.range 10).map mu) i = mu i := by
  unfold hk_a
  rw [List.getD_eq_getElem?_getD, List.getElem?_map, List.getElem?_range hi]
  rfl
theorem hk_a10 (mu : Nat → Nat) : hk_a ((List.range 10).map mu) 10 = 0 := by
  unfold hk_a
  rw [List.getD_eq_getElem?_getD, List.getElem?_eq_none (by simp)]
  rfl
theorem hk_facts {mu : Nat → Nat} (h : hk_fall mu) (hs : sm_s mu 10 ≤ 10) : 0 < hk_F mu ∧ hk_F mu < 1000000 ∧ 0 < hk_p mu ∧ hk_p mu < 10000000 := by
  have t := hk_tab h hs
  unfold hk_ck at t
  simp only [Bool.and_eq_true, decide_eq_true_eq] at t
  have eF : hk_F (hk_a ((List.range 10).map mu)) = hk_F mu := hk_FC (fun i hi => hk_aeq mu hi)
  have eP : hk_p (hk_a ((List.range 10).map mu)) = hk_p mu := hk_pC (fun i hi => hk_aeq mu hi)
  rw [eF, eP] at t
  exact ⟨t.1.1.1.1, t.1.1.1.2, t.1.1.2, t.1.2⟩
theorem hk_rec {mu : Nat → Nat} (h : hk_fall mu) (h10 : mu 10 = 0) (hs : sm_s mu 10 ≤ 10) : (sm_s mu 10 = 0 → hk_F mu = 1) ∧ (sm_s mu 10 ≠ 0 → hk_F mu = hk_R mu) := by
  have t := hk_tab h hs
  unfold hk_ck at t
  simp only [Bool.and_eq_true] at t
  have t := t.2
  have eF : hk_F (hk_a ((List.range 10).map mu)) = hk_F mu := hk_FC (fun i hi => hk_aeq mu hi)
  have eS : sm_s (hk_a ((List.range 10).map mu)) 10 = sm_s mu 10 := sm_congr 10 (fun i hi => hk_aeq mu hi)
  have eR : hk_R (hk_a ((List.range 10).map mu)) = hk_R mu := by
    unfold hk_R
    refine sm_congr 10 (fun k hk => ?_)
    have e1 : hk_a ((List.range 10).map mu) (k + 1) = mu (k + 1) := by
      by_cases e : k = 9
      · rw [e]; rw [hk_a10 mu, h10]
      · exact hk_aeq mu (by omega)
    rw [e1, hk_aeq mu hk]
    rw [hk_FC (mu := hk_m (hk_a ((List.range 10).map mu)) k) (nu := hk_m mu k) (fun i hi => by unfold hk_m; rw [hk_aeq mu hi])]
  rw [eF, eS, eR] at t
  constructor
  · intro e
    rw [if_pos e] at t
    simpa using t
  · intro e
    rw [if_neg e] at t
    simpa using t
def mx_w (s : Nat → Nat) : Nat → Nat
  | 0 => 1
  | k + 1 => mx_w s k * (s k + 1)
def mx_d (s : Nat → Nat) (x k : Nat) : Nat := x / mx_w s k % (s k + 1)
theorem mx_pos (s : Nat → Nat) : ∀ k, 0 < mx_w s k := by
  intro k
  induction k with
  | zero => exact Nat.one_pos
  | succ k ih => exact Nat.mul_pos ih (by omega)
theorem mx_dvd (s : Nat → Nat) (j : Nat) : ∀ e, ∃ M, 0 < M ∧ mx_w s (j + 1 + e) = mx_w s j * ((s j + 1) * M) := by
  intro e
  induction e with
  | zero => exact ⟨1, by omega, by rw [Nat.mul_one]; rfl⟩
  | succ e ih =>
    obtain ⟨M, h0, h⟩ := ih
    refine ⟨M * (s (j + 1 + e) + 1), Nat.mul_pos h0 (by omega), ?_⟩
    show mx_w s (j + 1 + e) * (s (j + 1 + e) + 1) = _
    rw [h, Nat.mul_assoc, Nat.mul_assoc]
theorem mx_dvdL (s : Nat → Nat) {j k : Nat} (h : j < k) : ∃ M, 0 < M ∧ mx_w s k = mx_w s j * ((s j + 1) * M) := by
  have := mx_dvd s j (k - (j + 1))
  rwa [show j + 1 + (k - (j + 1)) = k by omega] at this
theorem mx_le (s : Nat → Nat) (x k : Nat) : mx_d s x k ≤ s k := Nat.le_of_lt_succ (Nat.mod_lt _ (by omega))
theorem mx_c1 {q s : Nat} (h : q % (s + 1) < s) : (q + 1) % (s + 1) = q % (s + 1) + 1 ∧ (q + 1) / (s + 1) = q / (s + 1) := by
  have e := Nat.div_add_mod q (s + 1)
  have e2 : q + 1 = (s + 1) * (q / (s + 1)) + (q % (s + 1) + 1) := by omega
  constructor
  · rw [e2, Nat.mul_add_mod, Nat.mod_eq_of_lt (by omega)]
  · rw [e2, Nat.mul_add_div (by omega), Nat.div_eq_of_lt (show q % (s + 1) + 1 < s + 1 by omega), Nat.add_zero]
theorem mx_up {s : Nat → Nat} {x k : Nat} (h : mx_d s x k < s k) (j : Nat) : mx_d s (x + mx_w s k) j = mx_d s x j + (if j = k then 1 else 0) := by
  have hw := mx_pos s k
  by_cases e : j = k
  · rw [if_pos e, e]
    unfold mx_d at h ⊢
    rw [Nat.add_div_right _ hw]
    exact (mx_c1 h).1
  · rw [if_neg e, Nat.add_zero]
    by_cases lt : j < k
    · obtain ⟨M, _, hM⟩ := mx_dvdL s lt
      unfold mx_d
      rw [hM, Nat.add_mul_div_left _ _ (mx_pos s j), Nat.add_mul_mod_self_left]
    · obtain ⟨M, _, hM⟩ := mx_dvdL s (by omega : k < j)
      unfold mx_d at h ⊢
      rw [hM, ← Nat.div_div_eq_div_mul, ← Nat.div_div_eq_div_mul, Nat.add_div_right _ hw, ← Nat.div_div_eq_div_mul, ← Nat.div_div_eq_div_mul, (mx_c1 h).2]
theorem mx_dn {s : Nat → Nat} {x k : Nat} (h : 0 < mx_d s x k) : mx_w s k ≤ x ∧ mx_d s (x - mx_w s k) k < s k ∧ ∀ j, mx_d s x j = mx_d s (x - mx_w s k) j + (if j = k then 1 else 0) := by
  have hw := mx_pos s k
  have hx : mx_w s k ≤ x := by
    apply Classical.byContradiction
    intro hn
    unfold mx_d at h
    rw [Nat.div_eq_of_lt (by omega)] at h
    simp at h
  have e : x - mx_w s k + mx_w s k = x := Nat.sub_add_cancel hx
  have h2 : mx_d s (x - mx_w s k) k < s k := by
    have e1 : x / mx_w s k = (x - mx_w s k) / mx_w s k + 1 := by
      have := Nat.add_div_right (x - mx_w s k) hw
      rw [e] at this
      exact this
    unfold mx_d at h ⊢
    rw [e1] at h
    apply Classical.byContradiction
    intro hn
    have h3 : (x - mx_w s k) / mx_w s k % (s k + 1) = s k := by
      have := Nat.mod_lt ((x - mx_w s k) / mx_w s k) (by omega : 0 < s k + 1)
      omega
    have e2 := Nat.div_add_mod ((x - mx_w s k) / mx_w s k) (s k + 1)
    rw [h3] at e2
    rw [← e2, Nat.add_assoc, Nat.mul_add_mod, Nat.mod_self] at h
    omega
  refine ⟨hx, h2, fun j => ?_⟩
  have h4 := mx_up h2 j
  rw [e] at h4
  exact h4
theorem mx_in {s : Nat → Nat} {x k K : Nat} (hk : k < K) (hx : x < mx_w s K) (h : mx_d s x k < s k) : x + mx_w s k < mx_w s K := by
  obtain ⟨M, h0, hM⟩ := mx_dvdL s hk
  have hw := mx_pos s k
  unfold mx_d at h
  rw [hM] at hx ⊢
  have hq : x / mx_w s k < (s k + 1) * M := (Nat.div_lt_iff_lt_mul hw).mpr (by rw [Nat.mul_comm]; exact hx)
  have e := Nat.div_add_mod (x / mx_w s k) (s k + 1)
  have ha : x / mx_w s k / (s k + 1) < M := (Nat.div_lt_iff_lt_mul (by omega)).mpr (by rw [Nat.mul_comm]; exact hq)
  have h1 : (s k + 1) * (x / mx_w s k / (s k + 1) + 1) ≤ (s k + 1) * M := Nat.mul_le_mul_left _ ha
  rw [Nat.mul_add, Nat.mul_one] at h1
  have h2 : x / mx_w s k + 2 ≤ (s k + 1) * M := by omega
  have h3 : mx_w s k * (x / mx_w s k + 2) ≤ mx_w s k * ((s k + 1) * M) := Nat.mul_le_mul_left _ h2
  rw [Nat.mul_add] at h3
  have h4 := Nat.div_add_mod x (mx_w s k)
  have h5 := Nat.mod_lt x hw
  omega
theorem mx_last {s : Nat → Nat} {k K : Nat} (hk : k < K) : mx_d s (mx_w s K - 1) k = s k := by
  obtain ⟨M, h0, hM⟩ := mx_dvdL s hk
  have hw := mx_pos s k
  unfold mx_d
  rw [hM]
  obtain ⟨M', rfl⟩ : ∃ M', M = M' + 1 := ⟨M - 1, by omega⟩
  have e1 : mx_w s k * ((s k + 1) * (M' + 1)) - 1 = mx_w s k * ((s k + 1) * M' + s k) + (mx_w s k - 1) := by
    have : (s k + 1) * (M' + 1) = ((s k + 1) * M' + s k) + 1 := by rw [Nat.mul_add, Nat.mul_one]; omega
    rw [this, Nat.mul_add _ _ 1, Nat.mul_one]
    omega
  rw [e1, Nat.mul_add_div hw, Nat.div_eq_of_lt (by omega), Nat.add_zero, Nat.mul_add_mod, Nat.mod_eq_of_lt (by omega)]
theorem mx_z {s : Nat → Nat} {x : Nat} : ∀ K, (∀ k, k < K → mx_d s x k = 0) → x % mx_w s K = 0 := by
  intro K
  induction K with
  | zero => intro _; exact Nat.mod_one x
  | succ K ih =>
    intro h
    show x % (mx_w s K * (s K + 1)) = 0
    rw [Nat.mod_mul, ih (fun k hk => h k (by omega))]
    have := h K (by omega)
    unfold mx_d at this
    rw [this]
    rfl
theorem mx_two (s : Nat → Nat) : ∀ k, mx_w s k ≤ 2 ^ sm_s s k := by
  intro k
  induction k with
  | zero => exact Nat.le_refl _
  | succ k ih =>
    show mx_w s k * (s k + 1) ≤ 2 ^ (sm_s s k + s k)
    rw [Nat.pow_add]
    exact Nat.mul_le_mul ih (Nat.lt_two_pow_self)
end
