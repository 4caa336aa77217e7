section
theorem i_vc0 : wpX_init (fun u => wpY_init (fun v => i_Rel 0 u v)) := by
  refine ⟨0, fun _ => 0, fun _ => 0, fun _ => 0, fun _ => 0, fun _ => 0, fun _ => 0, fun _ => 0, fun _ => 0, rfl, rfl, by omega, fun i hi => absurd hi (by omega), fun i j hi => absurd hi (by omega)⟩
theorem rl_mk {k n : Nat} {a t lb wb be sh we wy : Nat → Int32} (h : rl_Ok n a) : i_Rel k (nI n, a, t, lb, wb) (nI n, a, be, sh, we, wy) := ⟨n, a, t, lb, wb, be, sh, we, wy, rfl, rfl, h⟩
theorem xw_inRow {n : Nat} {a t lb wb : Nat → Int32} {post : Int32 → Prop} (hn : n ≤ 10) {x : Int32} (h1 : ∀ i, i < n → a i = x → post 1) (h0 : (∀ i, i < n → a i ≠ x) → post 0) : wpX_isInRow post (nI n, a, t, lb, wb) x := by
  have H : ∀ d i, i + d = n → (∀ q, q < i → a q ≠ x) → wX_isInRow_2 post x (nI n) a t lb wb (d + 1) (nI i) := by
    intro d
    induction d with
    | zero =>
      intro i hi hq
      exact br_t (nI_le (by omega) (by omega)) (h0 (fun q hq' => hq q (by omega)))
    | succ d ih =>
      intro i hi hq
      refine br_f (nI_ge (by omega) (by omega)) ⟨vp_in_nI (by omega) (by omega), ?_⟩
      rw [nI_clamp (by omega)]
      by_cases e : a i = x
      · exact br_t e (h1 i (by omega) e)
      · refine br_f e (nm_r (nI_1 i) (ih (i + 1) (by omega) ?_))
        intro q hq'
        by_cases e2 : q = i
        · rw [e2]; exact e
        · exact hq q (by omega)
  exact ⟨n + 1, H n 0 (by omega) (fun q hq => absurd hq (by omega))⟩
theorem yw_holds {n : Nat} {a be sh we wy : Nat → Int32} {post : Int32 → Prop} (hn : n ≤ 10) {x : Int32} (h1 : ∀ i, i < n → a i = x → post 1) (h0 : (∀ i, i < n → a i ≠ x) → post 0) : wpY_holds post (nI n, a, be, sh, we, wy) x := by
  have H : ∀ d i, i + d = n → (∀ q, q < i → a q ≠ x) → wY_holds_2 post x (nI n) a be sh we wy (d + 1) (nI i) := by
    intro d
    induction d with
    | zero =>
      intro i hi hq
      exact br_t (nI_le (by omega) (by omega)) (h0 (fun q hq' => hq q (by omega)))
    | succ d ih =>
      intro i hi hq
      refine br_f (nI_ge (by omega) (by omega)) (br_f (nI_ge (b := 10) (by omega) (by omega)) ⟨vp_in_nI (by omega) (by omega), ?_⟩)
      rw [nI_clamp (by omega)]
      by_cases e : a i = x
      · exact br_t e (h1 i (by omega) e)
      · refine br_f e (nm_r (nI_1 i) (ih (i + 1) (by omega) ?_))
        intro q hq'
        by_cases e2 : q = i
        · rw [e2]; exact e
        · exact hq q (by omega)
  exact ⟨n + 1, H n 0 (by omega) (fun q hq => absurd hq (by omega))⟩
theorem i_vc_push {k : Nat} {u : SX} {v : SY} (I : i_Rel k u v) (hk : k + 3 ≤ 1536) (v1 : Int32) : wpX_push (fun r u' => wpY_push (fun r' v' => r' = r ∧ i_Rel (k + 3) u' v') v v1) u v1 := by
  obtain ⟨n, a, t, lb, wb, be, sh, we, wy, rfl, rfl, ok⟩ := I
  have hn := ok.1
  by_cases h0 : v1 < 0
  · exact br_t h0 (br_t h0 ⟨rfl, rl_mk ok⟩)
  · by_cases h99 : v1 ≤ 99
    · refine br_f h0 (br_t h99 ?_)
      by_cases hin : ∃ i, i < n ∧ a i = v1
      · refine xw_inRow hn (fun i hi e => br_f (by decide) ?_) (fun hne => absurd hin (fun ⟨i, hi, e⟩ => hne i hi e))
        refine br_f h0 (br_t h99 ?_)
        exact yw_holds hn (fun i hi e => br_f (by decide) ⟨rfl, rl_mk ok⟩) (fun hne => absurd hin (fun ⟨i, hi, e⟩ => hne i hi e))
      · refine xw_inRow hn (fun i hi e => absurd ⟨i, hi, e⟩ hin) (fun hne => br_t rfl ?_)
        by_cases h10 : n < 10
        · refine br_t (nI_lt (b := 10) h10 (by omega)) ⟨vp_in_nI h10 (by omega), nm_e (nm_e ?_)⟩
          refine br_f h0 (br_t h99 ?_)
          refine yw_holds hn (fun i hi e => absurd e (hne i hi)) (fun _ => br_t rfl ?_)
          refine br_t (nI_lt (b := 10) h10 (by omega)) ⟨vp_in_nI h10 (by omega), nm_e (nm_e ⟨rfl, ?_⟩)⟩
          rw [nI_clamp (by omega), nI_1]
          obtain ⟨j, hj, e⟩ := nI_of h0
          have hj2 : j < 100 := by
            rw [e] at h99
            have := (nI_leI hj (by omega : 99 < 2 ^ 31)).mp h99
            omega
          rw [e]
          exact rl_mk (rl_push ok h10 hj2 (fun i hi => by rw [← e]; exact hne i hi))
        · refine br_f (nI_nlt (b := 10) (by omega) (by omega)) ?_
          refine br_f h0 (br_t h99 ?_)
          refine yw_holds hn (fun i hi e => absurd e (hne i hi)) (fun _ => br_t rfl ?_)
          exact br_f (nI_nlt (b := 10) (by omega) (by omega)) ⟨rfl, rl_mk ok⟩
    · exact br_f h0 (br_f h99 (br_f h0 (br_f h99 ⟨rfl, rl_mk ok⟩)))
theorem i_vc_pop {k : Nat} {u : SX} {v : SY} (I : i_Rel k u v) (hk : k + 3 ≤ 1536) : wpX_pop (fun r u' => wpY_pop (fun r' v' => r' = r ∧ i_Rel (k + 3) u' v') v) u := by
  obtain ⟨n, a, t, lb, wb, be, sh, we, wy, rfl, rfl, ok⟩ := I
  have hn := ok.1
  cases n with
  | zero => exact br_t nI_0 (br_t nI_0 ⟨rfl, rl_mk ok⟩)
  | succ n =>
    have hz : ¬ nI (n + 1) = 0 := nI_ne0 (by omega) (by omega)
    refine br_f hz (nm_r (nI_pred n) ⟨vp_in_nI (by omega) (by omega), ?_⟩)
    refine br_f hz (nm_r (nI_pred n) ⟨vp_in_nI (by omega) (by omega), rfl, ?_⟩)
    exact rl_mk (rl_pop ok)
theorem xw_gt {n j : Nat} {a t lb wb : Nat → Int32} {post : Int32 → Prop} (hn : n ≤ 10) (hj : j < n) (h : post 1) : wpX_isGood post (nI n, a, t, lb, wb) (nI j) :=
  br_f (nI_pos (by omega)) (br_f (nI_ge hj (by omega)) h)
theorem xw_gf {n : Nat} {a t lb wb : Nat → Int32} {post : Int32 → Prop} {p : Int32} (hn : n ≤ 10) (hp : p < 0 ∨ nI n ≤ p) (h : post 0) : wpX_isGood post (nI n, a, t, lb, wb) p := by
  rcases hp with hp | hp
  · exact br_t hp h
  · exact br_f (Int32.not_lt.mpr (Int32.le_trans (nI_pos' (by omega)) hp)) (br_t hp h)
theorem yw_bt {n j : Nat} {a be sh we wy : Nat → Int32} {post : Int32 → Prop} (hn : n ≤ 10) (hj : j < n) (h : post 0) : wpY_bad post (nI n, a, be, sh, we, wy) (nI j) :=
  br_f (nI_pos (by omega)) (br_f (nI_ge hj (by omega)) (br_t (nI_le (b := 9) (by omega) (by omega)) h))
theorem yw_bf {n : Nat} {a be sh we wy : Nat → Int32} {post : Int32 → Prop} {p : Int32} (hn : n ≤ 10) (hp : p < 0 ∨ nI n ≤ p) (h : post 1) : wpY_bad post (nI n, a, be, sh, we, wy) p := by
  rcases hp with hp | hp
  · exact br_t hp h
  · exact br_f (Int32.not_lt.mpr (Int32.le_trans (nI_pos' (by omega)) hp)) (br_t hp h)
theorem rl_cs (p : Int32) {n : Nat} (hn : n ≤ 10) : (p < 0 ∨ nI n ≤ p) ∨ ∃ j, j < n ∧ p = nI j := by
  rcases pk_ix p (by omega : n < 2 ^ 31) with h | h | h
  · exact Or.inl (Or.inl h)
  · exact Or.inl (Or.inr h)
  · exact Or.inr h
theorem xw_swap {n i j : Nat} {a t lb wb : Nat → Int32} {post : SX → Prop} (hn : n ≤ 10) (hi : i < n) (hj : j < n) (h : post (nI n, rl_sw a i j, t, lb, wb)) : wpX_swap post (nI n, a, t, lb, wb) (nI i) (nI j) := by
  refine ⟨vp_in_nI (by omega) (by omega), fun x3 e3 => ⟨vp_in_nI (by omega) (by omega), vp_in_nI (by omega) (by omega), fun r5 e5 => ⟨vp_in_nI (by omega) (by omega), fun r7 e7 => ?_⟩⟩⟩
  subst e7
  subst e5
  subst e3
  rw [nI_clamp (by omega : i < 2 ^ 31), nI_clamp (by omega : j < 2 ^ 31)]
  exact h
theorem yw_exch {n i j : Nat} {a be sh we wy : Nat → Int32} {post : Int32 → SY → Prop} (hn : n ≤ 10) (hi : i < n) (hj : j < n) (h : post 0 (nI n, rl_sw a i j, be, sh, we, wy)) : wpY_exchange post (nI n, a, be, sh, we, wy) (nI i) (nI j) := by
  unfold wpY_exchange
  dsimp only
  refine yw_bt hn hi (br_t rfl ?_)
  refine yw_bt hn hj (br_t rfl ?_)
  refine ⟨vp_in_nI (by omega) (by omega), fun x3 e3 => ⟨vp_in_nI (by omega) (by omega), vp_in_nI (by omega) (by omega), fun r5 e5 => ⟨vp_in_nI (by omega) (by omega), fun r7 e7 => ?_⟩⟩⟩
  subst e7
  subst e5
  subst e3
  rw [nI_clamp (by omega : i < 2 ^ 31), nI_clamp (by omega : j < 2 ^ 31)]
  exact h
theorem i_vc_exchange {k : Nat} {u : SX} {v : SY} (I : i_Rel k u v) (hk : k + 3 ≤ 1536) (v1 : Int32) (v2 : Int32) : wpX_exchange (fun r u' => wpY_exchange (fun r' v' => r' = r ∧ i_Rel (k + 3) u' v') v v1 v2) u v1 v2 := by
  obtain ⟨n, a, t, lb, wb, be, sh, we, wy, rfl, rfl, ok⟩ := I
  have hn := ok.1
  unfold wpX_exchange
  dsimp only
  rcases rl_cs v1 hn with h1 | ⟨i, hi, rfl⟩
  · refine xw_gf hn h1 (br_t rfl ?_)
    unfold wpY_exchange
    dsimp only
    exact yw_bf hn h1 (br_f (by decide) ⟨rfl, rl_mk ok⟩)
  · refine xw_gt hn hi (br_f (by decide) ?_)
    rcases rl_cs v2 hn with h2 | ⟨j, hj, rfl⟩
    · refine xw_gf hn h2 (br_t rfl ?_)
      unfold wpY_exchange
      dsimp only
      refine yw_bt hn hi (br_t rfl ?_)
      exact yw_bf hn h2 (br_f (by decide) ⟨rfl, rl_mk ok⟩)
    · refine xw_gt hn hj (br_f (by decide) ?_)
      refine xw_swap hn hi hj ?_
      exact yw_exch hn hi hj ⟨rfl, rl_mk (rl_swOk ok hi hj)⟩
theorem i_vc_reverse {k : Nat} {u : SX} {v : SY} (I : i_Rel k u v) (hk : k + 3 ≤ 1536) : wpX_reverse (fun r u' => wpY_reverse (fun r' v' => r' = r ∧ i_Rel (k + 3) u' v') v) u := by
  obtain ⟨n, a, t, lb, wb, be, sh, we, wy, rfl, rfl, ok⟩ := I
  have hn := ok.1
  have e2 : nI n / 2 = nI (n / 2) := pk_div (d := 2) (by omega) (by omega) (by omega)
  have e3 : ∀ i, i < n → (nI n - 1) - nI i = nI (n - 1 - i) := by
    intro i hi
    show (nI n - nI 1) - nI i = _
    rw [pk_sub (by omega), pk_sub (by omega)]
  have Y : ∀ (post : Int32 → SY → Prop), post (nI n) (nI n, rl_rv a n (n / 2), be, sh, we, wy) → ∀ d i, i + d = n / 2 → wY_reverse_2 post (d + 1) (nI i) (nI n) (rl_rv a n i) be sh we wy := by
    intro post hp d
    induction d with
    | zero =>
      intro i hi
      refine ⟨by decide, ?_⟩
      rw [e2]
      have e : i = n / 2 := hi
      rw [e]
      exact br_t (nI_le (by omega) (by omega)) hp
    | succ d ih =>
      intro i hi
      refine ⟨by decide, ?_⟩
      rw [e2, e3 i (by omega)]
      refine br_f (nI_ge (by omega) (by omega)) ?_
      refine yw_exch hn (by omega) (by omega) ?_
      exact nm_r (nI_1 i) (ih (i + 1) (by omega))
  have X : ∀ (post : Int32 → SX → Prop), post (nI n) (nI n, rl_rv a n (n / 2), t, lb, wb) → ∀ d i, i + d = n / 2 → wX_reverse_2 post (d + 1) (nI i) (nI n) (rl_rv a n i) t lb wb := by
    intro post hp d
    induction d with
    | zero =>
      intro i hi
      refine ⟨by decide, ?_⟩
      rw [e2]
      have e : i = n / 2 := hi
      rw [e]
      exact br_t (nI_le (by omega) (by omega)) hp
    | succ d ih =>
      intro i hi
      refine ⟨by decide, ?_⟩
      rw [e2, e3 i (by omega)]
      refine br_f (nI_ge (by omega) (by omega)) ?_
      refine xw_swap hn (by omega) (by omega) ?_
      exact nm_r (nI_1 i) (ih (i + 1) (by omega))
  refine ⟨n / 2 + 1, X _ ?_ (n / 2) 0 (by omega)⟩
  exact ⟨n / 2 + 1, Y _ ⟨rfl, rl_mk (rl_rvOk ok _ (by omega))⟩ (n / 2) 0 (by omega)⟩
theorem i_vc_mirror {k : Nat} {u : SX} {v : SY} (I : i_Rel k u v) (hk : k + 3 ≤ 1536) : wpX_mirror (fun r u' => wpY_mirror (fun r' v' => r' = r ∧ i_Rel (k + 3) u' v') v) u := by
  obtain ⟨n, a, t, lb, wb, be, sh, we, wy, rfl, rfl, ok⟩ := I
  have hn := ok.1
  have Y : ∀ (post : Int32 → SY → Prop), post (nI n) (nI n, rl_mi a n, be, sh, we, wy) → ∀ d i, i + d = n → wY_mirror_2 post (nI n) (d + 1) (nI i) (rl_mi a i) be sh we wy := by
    intro post hp d
    induction d with
    | zero =>
      intro i hi
      have e : i = n := hi
      rw [e]
      exact br_t (nI_le (by omega) (by omega)) hp
    | succ d ih =>
      intro i hi
      refine br_f (nI_ge (by omega) (by omega)) (br_f (nI_ge (b := 10) (by omega) (by omega)) ⟨vp_in_nI (by omega) (by omega), vp_in_nI (by omega) (by omega), nm_r (e' := rl_mi a (i + 1)) ?_ (nm_r (nI_1 i) (ih (i + 1) (by omega)))⟩)
      rw [nI_clamp (by omega), rl_mis]
  have X : ∀ (post : Int32 → SX → Prop), post (nI n) (nI n, rl_mi a n, t, lb, wb) → ∀ d i, i + d = n → wX_mirror_2 post (nI n) (d + 1) (nI i) (rl_mi a i) t lb wb := by
    intro post hp d
    induction d with
    | zero =>
      intro i hi
      have e : i = n := hi
      rw [e]
      exact br_t (nI_le (by omega) (by omega)) hp
    | succ d ih =>
      intro i hi
      refine br_f (nI_ge (by omega) (by omega)) ⟨vp_in_nI (by omega) (by omega), vp_in_nI (by omega) (by omega), nm_r (e' := rl_mi a (i + 1)) ?_ (nm_r (nI_1 i) (ih (i + 1) (by omega)))⟩
      rw [nI_clamp (by omega), rl_mis]
  have x0 := X (fun r u' => wpY_mirror (fun r' v' => r' = r ∧ i_Rel (k + 3) u' v') (nI n, a, be, sh, we, wy)) (by
    have y0 := Y (fun r' v' => r' = nI n ∧ i_Rel (k + 3) (nI n, rl_mi a n, t, lb, wb) v') ⟨rfl, rl_mk (rl_miOk ok)⟩ n 0 (by omega)
    rw [rl_mi0] at y0
    exact ⟨n + 1, y0⟩) n 0 (by omega)
  rw [rl_mi0] at x0
  exact ⟨n + 1, x0⟩
theorem i_vc_length {k : Nat} {u : SX} {v : SY} (I : i_Rel k u v) (hk : k + 3 ≤ 1536) : wpX_length (fun r => wpY_length (fun r' => r' = r ∧ i_Rel (k + 3) u v) v) u := by
  obtain ⟨n, a, t, lb, wb, be, sh, we, wy, rfl, rfl, ok⟩ := I
  exact ⟨rfl, rl_mk ok⟩
theorem i_vc_at {k : Nat} {u : SX} {v : SY} (I : i_Rel k u v) (hk : k + 3 ≤ 1536) (v1 : Int32) : wpX_at (fun r => wpY_at (fun r' => r' = r ∧ i_Rel (k + 3) u v) v v1) u v1 := by
  obtain ⟨n, a, t, lb, wb, be, sh, we, wy, rfl, rfl, ok⟩ := I
  have hn := ok.1
  unfold wpX_at wpY_at
  dsimp only
  rcases rl_cs v1 hn with h1 | ⟨i, hi, rfl⟩
  · refine xw_gf hn h1 (br_t rfl ?_)
    exact yw_bf hn h1 (br_f (by decide) ⟨rfl, rl_mk ok⟩)
  · refine xw_gt hn hi (br_f (by decide) ⟨vp_in_nI (by omega) (by omega), ?_⟩)
    exact yw_bt hn hi (br_t rfl ⟨vp_in_nI (by omega) (by omega), rfl, rl_mk ok⟩)
theorem i_vc_move {k : Nat} {u : SX} {v : SY} (I : i_Rel k u v) (hk : k + 3 ≤ 1536) (v1 : Int32) (v2 : Int32) : wpX_move (fun r u' => wpY_move (fun r' v' => r' = r ∧ i_Rel (k + 3) u' v') v v1 v2) u v1 v2 := by
  obtain ⟨n, a, t, lb, wb, be, sh, we, wy, rfl, rfl, ok⟩ := I
  have hn := ok.1
  unfold wpX_move
  dsimp only
  rcases rl_cs v1 hn with h1 | ⟨f, hf, rfl⟩
  · refine xw_gf hn h1 (br_t rfl ?_)
    unfold wpY_move
    dsimp only
    exact yw_bf hn h1 (br_f (by decide) ⟨rfl, rl_mk ok⟩)
  · refine xw_gt hn hf (br_f (by decide) ?_)
    rcases rl_cs v2 hn with h2 | ⟨g, hg, rfl⟩
    · refine xw_gf hn h2 (br_t rfl ?_)
      unfold wpY_move
      dsimp only
      refine yw_bt hn hf (br_t rfl ?_)
      exact yw_bf hn h2 (br_f (by decide) ⟨rfl, rl_mk ok⟩)
    · refine xw_gt hn hg (br_f (by decide) ⟨vp_in_nI (by omega) (by omega), nm_r (e' := a f) (by rw [nI_clamp (by omega)]) ?_⟩)
      have m1 : ∀ i, nI (i + 1) - 1 = nI i := fun i => nI_pred i
      by_cases up : f ≤ g
      · have X59 : ∀ (post : Int32 → SX → Prop) (r : Nat → Int32), post 0 (nI n, upd r g (a f), t, lb, wb) → wX_move_59 post (nI g) (a f) (nI n) 1 (nI f) r t lb wb := by
          intro post r hp
          refine br_t (nI_le up (by omega)) ⟨vp_in_nI (by omega) (by omega), nm_r (e' := upd r g (a f)) (by rw [nI_clamp (by omega)]) hp⟩
        have X28 : ∀ (post : Int32 → SX → Prop), post 0 (nI n, rl_mu a f g, t, lb, wb) → ∀ d i, i + d = g → f ≤ i → wX_move_28 post (nI f) (nI g) (a f) (nI n) (d + 1) (nI i) (rl_up a f i) t lb wb := by
          intro post hp d
          induction d with
          | zero =>
            intro i hi _
            have e : i = g := hi
            rw [e]
            refine br_t (nI_le (by omega) (by omega)) ⟨1, X59 post _ ?_⟩
            rw [rl_upE]
            exact hp
          | succ d ih =>
            intro i hi hfi
            refine br_f (nI_ge (by omega) (by omega)) ⟨?_, vp_in_nI (by omega) (by omega), nm_r (e' := rl_up a f (i + 1)) ?_ (nm_r (nI_1 i) (ih (i + 1) (by omega) (by omega)))⟩
            · rw [nI_1]; exact vp_in_nI (by omega) (by omega)
            · rw [nI_1, nI_clamp (by omega), nI_clamp (by omega), rl_ups a hfi]
        have Y42 : ∀ (post : Int32 → SY → Prop) (r : Nat → Int32), post 0 (nI n, r, be, sh, we, wy) → wY_move_42 post (nI g) 1 (nI f) (nI n) r be sh we wy := by
          intro post r hp
          exact br_t (nI_le up (by omega)) hp
        have Y20 : ∀ (post : Int32 → SY → Prop), post 0 (nI n, rl_mu a f g, be, sh, we, wy) → ∀ d i, i + d = g → f ≤ i → wY_move_20 post (nI f) (nI g) (d + 1) (nI i) (nI n) (rl_mu a f i) be sh we wy := by
          intro post hp d
          induction d with
          | zero =>
            intro i hi _
            have e : i = g := hi
            rw [e]
            exact br_t (nI_le (by omega) (by omega)) ⟨1, Y42 post _ hp⟩
          | succ d ih =>
            intro i hi hfi
            refine br_f (nI_ge (by omega) (by omega)) ?_
            rw [nI_1]
            refine yw_exch hn (by omega) (by omega) ?_
            rw [rl_mus a hfi]
            exact nm_e (ih (i + 1) (by omega) (by omega))
        have x0 := X28 (fun r u' => wpY_move (fun r' v' => r' = r ∧ i_Rel (k + 3) u' v') (nI n, a, be, sh, we, wy) (nI f) (nI g)) (by
          have y0 := Y20 (fun r' v' => r' = 0 ∧ i_Rel (k + 3) (nI n, rl_mu a f g, t, lb, wb) v') ⟨rfl, rl_mk (by
            have := rl_muOk ok (f := f) (g - f) (by omega)
            rwa [show f + (g - f) = g by omega] at this)⟩ (g - f) f (by omega) (by omega)
          rw [rl_mu0] at y0
          unfold wpY_move
          dsimp only
          refine yw_bt hn hf (br_t rfl ?_)
          refine yw_bt hn hg (br_t rfl ?_)
          exact ⟨_, y0⟩) (g - f) f (by omega) (by omega)
        rw [rl_up0] at x0
        exact ⟨_, x0⟩
      · have X59 : ∀ (post : Int32 → SX → Prop), post 0 (nI n, rl_md a f g, t, lb, wb) → ∀ d i, g + d = i → i ≤ f → wX_move_59 post (nI g) (a f) (nI n) (d + 1) (nI i) (rl_dn a f i) t lb wb := by
          intro post hp d
          induction d with
          | zero =>
            intro i hi _
            have e : i = g := hi.symm
            rw [e]
            refine br_t (nI_le (by omega) (by omega)) ⟨vp_in_nI (by omega) (by omega), nm_r (e' := rl_md a f g) (by rw [nI_clamp (by omega), rl_dnE]) hp⟩
          | succ d ih =>
            intro i hi hif
            obtain ⟨i', rfl⟩ : ∃ i', i = i' + 1 := ⟨i - 1, by omega⟩
            refine br_f (nI_ge (by omega) (by omega)) ⟨?_, vp_in_nI (by omega) (by omega), nm_r (e' := rl_dn a f i') ?_ (nm_r (pk_m1 i') (ih i' (by omega) (by omega)))⟩
            · rw [m1]; exact vp_in_nI (by omega) (by omega)
            · rw [m1, nI_clamp (by omega), nI_clamp (by omega), rl_dns a hif]
        have X28 : ∀ (post : Int32 → SX → Prop), post 0 (nI n, rl_md a f g, t, lb, wb) → wX_move_28 post (nI f) (nI g) (a f) (nI n) 1 (nI f) a t lb wb := by
          intro post hp
          have x := X59 post hp (f - g) f (by omega) (by omega)
          rw [rl_dn0] at x
          exact br_t (nI_le (by omega) (by omega)) ⟨_, x⟩
        have Y42 : ∀ (post : Int32 → SY → Prop), post 0 (nI n, rl_md a f g, be, sh, we, wy) → ∀ d i, g + d = i → i ≤ f → wY_move_42 post (nI g) (d + 1) (nI i) (nI n) (rl_md a f i) be sh we wy := by
          intro post hp d
          induction d with
          | zero =>
            intro i hi _
            have e : i = g := hi.symm
            rw [e]
            exact br_t (nI_le (by omega) (by omega)) hp
          | succ d ih =>
            intro i hi hif
            obtain ⟨i', rfl⟩ : ∃ i', i = i' + 1 := ⟨i - 1, by omega⟩
            refine br_f (nI_ge (by omega) (by omega)) ?_
            rw [m1]
            refine yw_exch hn (by omega) (by omega) ?_
            rw [rl_mds a hif]
            exact nm_r (pk_m1 i') (ih i' (by omega) (by omega))
        refine ⟨1, X28 _ ?_⟩
        have y0 := Y42 (fun r' v' => r' = 0 ∧ i_Rel (k + 3) (nI n, rl_md a f g, t, lb, wb) v') ⟨rfl, rl_mk (rl_mdOk ok hf (f - g) g (by omega))⟩ (f - g) f (by omega) (by omega)
        rw [rl_md0] at y0
        unfold wpY_move
        dsimp only
        refine yw_bt hn hf (br_t rfl ?_)
        refine yw_bt hn hg (br_t rfl ?_)
        exact ⟨1, br_t (nI_le (by omega) (by omega)) ⟨_, y0⟩⟩
end
