section
/-- the length of line i -/
def wd_l (T : Nat → Nat → Nat) (i : Nat) : Nat := if i < 10 then sm_s (fun j => tv_f T i j) 10 else 0
theorem wd_li (T : Nat → Nat → Nat) {i : Nat} (hi : i < 10) : wd_l T i = sm_s (fun j => tv_f T i j) 10 := if_pos hi
theorem wd_f {T : Nat → Nat → Nat} (hT : tb_T T) {i j : Nat} (hi : i < 10) (hj : j < 10) : tv_f T i j = if j < wd_l T i then 1 else 0 := by
  rw [wd_li T hi]
  exact sm_clI (f := fun j => tv_f T i j) (tv_f1 T i) (tv_rowcl hT hi) hj
theorem wd_fall {T : Nat → Nat → Nat} (hT : tb_T T) : hk_fall (wd_l T) := by
  intro k hk
  by_cases h : k + 1 < 10
  · rw [wd_li T h, wd_li T hk]
    refine sm_le 10 (fun j hj => ?_)
    rcases tv_01 T (k + 1) j with z | z
    · rw [z]; exact Nat.zero_le _
    · rw [z, tv_colcl hT hj k h z]; exact Nat.le_refl _
  · unfold wd_l
    rw [if_neg h]
    exact Nat.zero_le _
theorem wd_sum (T : Nat → Nat → Nat) : sm_s (wd_l T) 10 = tv_fc T 10 10 := sm_congr 10 (fun i hi => wd_li T hi)
theorem xw_hook {i j : Nat} {s : Int32} {a t lb wb : Nat → Int32} {post : Int32 → Prop} (ok : ta_Ok t) (hT : tb_T (ta_T t)) (hi : i < 10) (hj : j < 10) (h : post (nI (hk_h (wd_l (ta_T t)) i j))) : wpX_hook post (s, a, t, lb, wb) (nI i) (nI j) := by
  have L2 : ∀ m, m = 1 + sm_s (fun c => if j < c ∧ c < wd_l (ta_T t) i then 1 else 0) 10 → ∀ d r, r + d = 10 → i < r → wX_hook_38 post (nI j) s a t lb wb (d + 1) (nI (m + sm_s (fun r => if i < r ∧ j < wd_l (ta_T t) r then 1 else 0) r)) (nI r) := by
    intro m hm d
    induction d with
    | zero =>
      intro r hr _
      have e : r = 10 := hr
      rw [e, hm]
      exact br_t (nI_le (a := 10) (b := 10) (by omega) (by omega)) h
    | succ d ih =>
      intro r hr hir
      have nx := ih (r + 1) (by omega) (by omega)
      rw [sm_s] at nx
      refine br_f (nI_ge (b := 10) (by omega) (by omega)) ?_
      refine xw_fill ok (by omega) hj ?_
      rw [wd_f hT (by omega : r < 10) hj]
      by_cases c : j < wd_l (ta_T t) r
      · rw [if_pos ⟨hir, c⟩] at nx
        rw [if_pos c]
        exact br_f (by decide) (nm_r (nI_1 _) (nm_r (nI_1 r) nx))
      · rw [if_neg (fun z => c z.2)] at nx
        rw [if_neg c]
        exact br_t rfl (nm_r (nI_1 r) nx)
  have L1 : ∀ d c, c + d = 10 → j < c → wX_hook_7 post (nI i) (nI j) s a t lb wb (d + 1) (nI (1 + sm_s (fun c => if j < c ∧ c < wd_l (ta_T t) i then 1 else 0) c)) (nI c) := by
    intro d
    induction d with
    | zero =>
      intro c hc _
      have e : c = 10 := hc
      rw [e]
      have q := L2 _ rfl (10 - (i + 1)) (i + 1) (by omega) (by omega)
      have z : sm_s (fun r => if i < r ∧ j < wd_l (ta_T t) r then 1 else 0) (i + 1) = 0 := sm_zero _ (fun r hr => if_neg (by omega))
      rw [z, Nat.add_zero] at q
      exact br_t (nI_le (a := 10) (b := 10) (by omega) (by omega)) (nm_r (nI_1 i) ⟨_, q⟩)
    | succ d ih =>
      intro c hc hjc
      have nx := ih (c + 1) (by omega) (by omega)
      rw [sm_s] at nx
      refine br_f (nI_ge (b := 10) (by omega) (by omega)) ?_
      refine xw_fill ok hi (by omega) ?_
      rw [wd_f hT hi (by omega : c < 10)]
      by_cases e : c < wd_l (ta_T t) i
      · rw [if_pos ⟨hjc, e⟩] at nx
        rw [if_pos e]
        exact br_f (by decide) (nm_r (nI_1 _) (nm_r (nI_1 c) nx))
      · rw [if_neg (fun z => e z.2)] at nx
        rw [if_neg e]
        exact br_t rfl (nm_r (nI_1 c) nx)
  have q := L1 (10 - (j + 1)) (j + 1) (by omega) (by omega)
  have z : sm_s (fun c => if j < c ∧ c < wd_l (ta_T t) i then 1 else 0) (j + 1) = 0 := sm_zero _ (fun c hc => if_neg (by omega))
  rw [z] at q
  exact nm_r (nI_1 j) ⟨_, q⟩
theorem xw_prod {s : Int32} {a t lb wb : Nat → Int32} {post : Int32 → Prop} (ok : ta_Ok t) (hT : tb_T (ta_T t)) (h : post (nI (hk_p (wd_l (ta_T t))))) : wpX_productOfHooks post (s, a, t, lb, wb) := by
  have IN : ∀ (J : Int32 → Int32 → Prop) (i m : Nat), i < 10 → J (nI (m * pr_p (fun j => if j < wd_l (ta_T t) i then hk_h (wd_l (ta_T t)) i j else 1) 10)) (nI (i + 1)) → ∀ d j, j + d = 10 → wX_productOfHooks_12 post J (nI i) s a t lb wb (d + 1) (nI (m * pr_p (fun j => if j < wd_l (ta_T t) i then hk_h (wd_l (ta_T t)) i j else 1) j)) (nI j) := by
    intro J i m hi HJ d
    induction d with
    | zero =>
      intro j hj
      have e : j = 10 := hj
      rw [e]
      exact br_t (nI_le (a := 10) (b := 10) (by omega) (by omega)) (nm_r (nI_1 i) HJ)
    | succ d ih =>
      intro j hj
      have nx := ih (j + 1) (by omega)
      rw [pr_p, ← Nat.mul_assoc] at nx
      refine br_f (nI_ge (b := 10) (by omega) (by omega)) ?_
      refine xw_fill ok hi (by omega) ?_
      rw [wd_f hT hi (by omega : j < 10)]
      by_cases c : j < wd_l (ta_T t) i
      · rw [if_pos c] at nx
        rw [if_pos c]
        refine br_f (by decide) ?_
        refine xw_hook ok hT hi (by omega) ?_
        exact nm_r (pk_mul _ _) (nm_r (nI_1 j) nx)
      · rw [if_neg c, Nat.mul_one] at nx
        rw [if_neg c]
        exact br_t rfl (nm_r (nI_1 j) nx)
  have L : ∀ d i, i + d = 10 → wX_productOfHooks_4 post s a t lb wb (d + 1) (nI (pr_p (fun i => pr_p (fun j => if j < wd_l (ta_T t) i then hk_h (wd_l (ta_T t)) i j else 1) 10) i)) (nI i) := by
    intro d
    induction d with
    | zero =>
      intro i hi
      have e : i = 10 := hi
      rw [e]
      exact br_t (nI_le (a := 10) (b := 10) (by omega) (by omega)) h
    | succ d ih =>
      intro i hi
      have q := IN _ i (pr_p (fun i => pr_p (fun j => if j < wd_l (ta_T t) i then hk_h (wd_l (ta_T t)) i j else 1) 10) i) (by omega) (ih (i + 1) (by omega)) 10 0 (by omega)
      have z : pr_p (fun j => if j < wd_l (ta_T t) i then hk_h (wd_l (ta_T t)) i j else 1) 0 = 1 := rfl
      rw [z, Nat.mul_one] at q
      exact br_f (nI_ge (b := 10) (by omega) (by omega)) ⟨_, q⟩
  exact ⟨11, L 10 0 (by omega)⟩
theorem hk_nb : ∀ n : Fin 11, hk_n n.val < 10000000 := by decide
theorem xw_fact {n : Nat} {s : Int32} {a t lb wb : Nat → Int32} {post : Int32 → Prop} (hn : n ≤ 10) (h : post (nI (hk_n n))) : wpX_factorial post (s, a, t, lb, wb) (nI n) := by
  by_cases h0 : n = 0
  · rw [h0] at h ⊢
    exact ⟨1, br_t (nI_lt (a := 0) (b := 2) (by omega) (by omega)) h⟩
  · have L : ∀ d c, 1 ≤ c → c + d = n → wX_factorial_4 post (nI n) s a t lb wb (d + 1) (nI (hk_n c)) (nI (c + 1)) := by
      intro d
      induction d with
      | zero =>
        intro c _ hc
        have e : c = n := hc
        rw [e]
        exact br_t (nI_lt (by omega) (by omega)) h
      | succ d ih =>
        intro c h1 hc
        exact br_f (nI_nlt (by omega) (by omega)) (nm_r (pk_mul _ _) (nm_r (nI_1 _) (ih (c + 1) (by omega) (by omega))))
    exact ⟨_, L (n - 1) 1 (by omega) (by omega)⟩
end
