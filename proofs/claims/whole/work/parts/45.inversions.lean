section
theorem xw_inv {n : Nat} {a t lb wb : Nat → Int32} (ok : rl_Ok n a) {post : Int32 → Prop} (h : post (nI (sm_s (fun i => sm_s (fun j => if i < j then iv_g (rl_f a) i j else 0) n) n))) : wpX_inversions post (nI n, a, t, lb, wb) := by
  have hn := ok.1
  have IN : ∀ (J : Int32 → Int32 → Prop) (i m : Nat), i < n → J (nI (m + sm_s (fun j => if i < j then iv_g (rl_f a) i j else 0) n)) (nI (i + 1)) → ∀ d j, j + d = n → i < j → wX_inversions_16 post J (nI i) (nI n) a t lb wb (d + 1) (nI (m + sm_s (fun j => if i < j then iv_g (rl_f a) i j else 0) j)) (nI j) := by
    intro J i m hi HJ d
    induction d with
    | zero =>
      intro j hj _
      have e : j = n := hj
      rw [e]
      exact br_t (nI_le (by omega) (by omega)) (nm_r (nI_1 i) HJ)
    | succ d ih =>
      intro j hj hij
      have vi := rl_val ok hi
      have vj := rl_val ok (by omega : j < n)
      have ei : a (nI i).toNatClampNeg = nI (rl_f a i) := by rw [nI_clamp (by omega)]; exact vi.1
      have ej : a (nI j).toNatClampNeg = nI (rl_f a j) := by rw [nI_clamp (by omega)]; exact vj.1
      have nx := ih (j + 1) (by omega) (by omega)
      rw [sm_s, if_pos hij] at nx
      refine br_f (nI_ge (by omega) (by omega)) ⟨vp_in_nI (by omega) (by omega), vp_in_nI (by omega) (by omega), pk_le (rl_f a i) (rl_f a j) (fun h1 => nm_r (nI_1 j) ?_) (fun h1 => nm_r (nI_1 _) (nm_r (nI_1 j) ?_)) ei ej (by omega) (by omega)⟩
      · have z : iv_g (rl_f a) i j = 0 := if_neg (by omega)
        rw [z] at nx
        exact nx
      · have z : iv_g (rl_f a) i j = 1 := if_pos h1
        rw [z] at nx
        exact nx
  have L : ∀ d i, i + d = n → wX_inversions_4 post (nI n) a t lb wb (d + 1) (nI (sm_s (fun i => sm_s (fun j => if i < j then iv_g (rl_f a) i j else 0) n) i)) (nI i) := by
    intro d
    induction d with
    | zero =>
      intro i hi
      have e : i = n := hi
      rw [e]
      exact br_t (nI_le (by omega) (by omega)) h
    | succ d ih =>
      intro i hi
      have q := IN _ i (sm_s (fun i => sm_s (fun j => if i < j then iv_g (rl_f a) i j else 0) n) i) (by omega) (ih (i + 1) (by omega)) (n - (i + 1)) (i + 1) (by omega) (by omega)
      have z : sm_s (fun j => if i < j then iv_g (rl_f a) i j else 0) (i + 1) = 0 := sm_zero _ (fun j hj => if_neg (by omega))
      rw [z, Nat.add_zero] at q
      exact br_f (nI_ge (by omega) (by omega)) (nm_r (nI_1 i) ⟨_, q⟩)
  exact ⟨n + 1, L n 0 (by omega)⟩
theorem yw_inv {n : Nat} {a be sh we wy : Nat → Int32} (ok : rl_Ok n a) {post : Int32 → Prop} (h : post (nI (sm_s (fun i => sm_s (fun j => iv_g (rl_f a) j i) i) n))) : wpY_inversions post (nI n, a, be, sh, we, wy) := by
  have hn := ok.1
  have IN : ∀ (J : Int32 → Int32 → Prop) (i m : Nat), i < n → J (nI (m + sm_s (fun j => iv_g (rl_f a) j i) i)) (nI (i + 1)) → ∀ d j, j + d = i → wY_inversions_20 post J (nI i) (nI n) a be sh we wy (d + 1) (nI (m + sm_s (fun j => iv_g (rl_f a) j i) j)) (nI j) := by
    intro J i m hi HJ d
    induction d with
    | zero =>
      intro j hj
      have e : j = i := hj
      rw [e]
      exact br_t (nI_le (by omega) (by omega)) (nm_r (nI_1 i) HJ)
    | succ d ih =>
      intro j hj
      have vi := rl_val ok hi
      have vj := rl_val ok (by omega : j < n)
      have ei : a (nI i).toNatClampNeg = nI (rl_f a i) := by rw [nI_clamp (by omega)]; exact vi.1
      have ej : a (nI j).toNatClampNeg = nI (rl_f a j) := by rw [nI_clamp (by omega)]; exact vj.1
      have nx := ih (j + 1) (by omega)
      rw [sm_s] at nx
      refine br_f (nI_ge (by omega) (by omega)) ⟨vp_in_nI (by omega) (by omega), vp_in_nI (by omega) (by omega), pk_le (rl_f a j) (rl_f a i) (fun h1 => nm_r (nI_1 j) ?_) (fun h1 => nm_r (nI_1 _) (nm_r (nI_1 j) ?_)) ej ei (by omega) (by omega)⟩
      · have z : iv_g (rl_f a) j i = 0 := if_neg (by omega)
        rw [z] at nx
        exact nx
      · have z : iv_g (rl_f a) j i = 1 := if_pos h1
        rw [z] at nx
        exact nx
  have L : ∀ d i, i + d = n → wY_inversions_4 post (nI n) a be sh we wy (d + 1) (nI (sm_s (fun i => sm_s (fun j => iv_g (rl_f a) j i) i) i)) (nI i) := by
    intro d
    induction d with
    | zero =>
      intro i hi
      have e : i = n := hi
      rw [e]
      exact br_t (nI_le (by omega) (by omega)) h
    | succ d ih =>
      intro i hi
      have q := IN _ i (sm_s (fun i => sm_s (fun j => iv_g (rl_f a) j i) i) i) (by omega) (ih (i + 1) (by omega)) i 0 (by omega)
      exact br_f (nI_ge (by omega) (by omega)) (br_f (nI_ge (b := 10) (by omega) (by omega)) ⟨_, q⟩)
  exact ⟨n + 1, L n 0 (by omega)⟩
theorem i_vc_inversions {k : Nat} {u : SX} {v : SY} (I : i_Rel k u v) (hk : k + 3 ≤ 1536) : wpX_inversions (fun r => wpY_inversions (fun r' => r' = r ∧ i_Rel (k + 3) u v) v) u := by
  obtain ⟨n, a, t, lb, wb, be, sh, we, wy, rfl, rfl, ok⟩ := I
  refine xw_inv ok ?_
  refine yw_inv ok ⟨?_, rl_mk ok⟩
  rw [iv_eq]
end
