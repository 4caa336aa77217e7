section
theorem xw_put {i x : Nat} {s : Int32} {a t lb wb : Nat → Int32} {post : Int32 → SX → Prop} (hi : i < 10) (hx : x ≤ 100) (ok : ta_Ok t) (H1 : ∀ j, j < 10 → (∀ q, q < j → ta_T t i q ≤ x) → x < ta_T t i j → post (nI (ta_T t i j)) (s, a, upd t (i * 10 + j) (nI x), lb, wb)) (H2 : (∀ q, q < 10 → ta_T t i q ≤ x) → post 100 (s, a, t, lb, wb)) : wpX_putInLine post (s, a, t, lb, wb) (nI i) (nI x) := by
  have e10 : nI (i * 10) + 10 = nI (i * 10 + 10) := nI_add (i * 10) 10
  have H : ∀ d j, j + d = 10 → (∀ q, q < j → ta_T t i q ≤ x) → wX_putInLine_8 post (nI x) (nI (i * 10)) s a t lb wb (d + 1) (nI (i * 10 + j)) := by
    intro d
    induction d with
    | zero =>
      intro j hj lo
      have e : j = 10 := hj
      rw [e]
      refine br_t ?_ (H2 (fun q hq => lo q (by omega)))
      rw [e10]
      exact nI_le (by omega) (by omega)
    | succ d ih =>
      intro j hj lo
      have v := ta_val ok hi (by omega : j < 10)
      refine br_f ?_ ⟨vp_in_nI (by omega) (by omega), nm_r (e' := nI (ta_T t i j)) (by rw [nI_clamp (by omega)]; exact v.1) (pk_le (ta_T t i j) x (fun h => nm_r (nI_1 _) (ih (j + 1) (by omega) ?_)) (fun h => ⟨vp_in_nI (by omega) (by omega), nm_r (e' := upd t (i * 10 + j) (nI x)) (by rw [nI_clamp (by omega)]) (H1 j (by omega) lo h)⟩))⟩
      · rw [e10]
        exact nI_ge (by omega) (by omega)
      · intro q hq
        by_cases e2 : q = j
        · rw [e2]; exact h
        · exact lo q (by omega)
  exact nm_r (e' := nI (i * 10)) (pk_mul i 10) ⟨11, H 10 0 (by omega) (fun q hq => absurd hq (by omega))⟩
theorem xw_ins {w : List Nat} (hn : w.Nodup) (hl : w.length ≤ 10) {s : Int32} {a lb wb : Nat → Int32} {post : SX → Prop} (H : ∀ t', ta_B w t' → post (s, a, t', lb, wb)) : ∀ d i c t, i + d = 10 → ta_I w t i c → wX_insert_4 post (d + 1) (nI c) (nI i) s a t lb wb := by
  intro d
  induction d with
  | zero =>
    intro i c t hi I
    have e : i = 10 := hi
    rw [e] at I
    rw [e]
    exact br_t (nI_le (a := 10) (b := 10) (by omega) (by omega)) (H t (ta_Ib hl I))
  | succ d ih =>
    intro i c t hi I
    refine br_f (nI_ge (b := 10) (by omega) (by omega)) ?_
    have hc := ta_c I
    refine xw_put (by omega) hc I.1 ?_ ?_
    · intro j hj lo up
      have hb := (ta_val I.1 (by omega : i < 10) hj).2
      have h := ta_s hn hl I (by omega) (by omega) (by omega : j ≤ 10) lo (fun _ => up)
      exact nm_r (nI_1 i) (ih (i + 1) _ _ (by omega) h.2)
    · intro lo
      have hc2 : c = 100 := by
        apply Classical.byContradiction
        intro hne
        have h := ta_s hn hl I (by omega) (by omega) (Nat.le_refl 10) lo (fun h => absurd h (by omega))
        exact absurd h.1 (by omega)
      rw [hc2] at I
      exact nm_r (nI_1 i) (ih (i + 1) 100 t (by omega) (ta_sk I (by omega)))
theorem xw_insW {w : List Nat} {x : Nat} (hx : x < 100) (hn : (w ++ [x]).Nodup) (hl : (w ++ [x]).length ≤ 10) {s : Int32} {a t lb wb : Nat → Int32} (B : ta_B w t) {post : SX → Prop} (H : ∀ t', ta_B (w ++ [x]) t' → post (s, a, t', lb, wb)) : wpX_insert post (s, a, t, lb, wb) (nI x) :=
  ⟨11, xw_ins hn hl H 10 0 x t (by omega) (ta_bI B hx)⟩
theorem sl_lenle (f : Nat → Nat) (b : Nat → Bool) (n : Nat) : (sl_l f b n).length ≤ n := by
  rw [sl_len]
  have h := sm_le (f := fun i => if b i = true then 1 else 0) (g := fun _ => 1) n (fun i _ => by split <;> omega)
  rwa [sm_one] at h
/-- the numbers that makeTableau inserts -/
def mt_w (a : Nat → Int32) (B : Int32) (c : Nat) : List Nat := sl_l (rl_f a) (fun q => decide (a q ≤ B)) c
theorem xw_mk2 {n c : Nat} {a lb wb : Nat → Int32} {B : Int32} (ok : rl_Ok n a) (hc : c ≤ n) {post : SX → Prop} (H : ∀ t', ta_B (mt_w a B c) t' → post (nI n, a, t', lb, wb)) : ∀ d i t, i + d = c → ta_B (mt_w a B i) t → wX_makeTableau_24 post (nI c) B (d + 1) (nI i) (nI n) a t lb wb := by
  have hn := ok.1
  intro d
  induction d with
  | zero =>
    intro i t hi T
    have e : i = c := hi
    rw [e] at T
    rw [e]
    exact br_t (nI_le (by omega) (by omega)) (H t T)
  | succ d ih =>
    intro i t hi T
    have v := rl_val ok (by omega : i < n)
    have ea : a (nI i).toNatClampNeg = nI (rl_f a i) := by rw [nI_clamp (by omega)]; exact v.1
    refine br_f (nI_ge (by omega) (by omega)) ⟨vp_in_nI (by omega) (by omega), ?_⟩
    rw [ea]
    by_cases hb : B < nI (rl_f a i)
    · refine br_t hb (nm_r (nI_1 i) (ih (i + 1) t (by omega) ?_))
      unfold mt_w
      rw [sl_f]
      · exact T
      · rw [decide_eq_true_eq, v.1]
        exact Int32.not_le.mpr hb
    · refine br_f hb ⟨vp_in_nI (by omega) (by omega), ?_⟩
      have et : mt_w a B (i + 1) = mt_w a B i ++ [rl_f a i] := by
        unfold mt_w
        rw [sl_t]
        rw [decide_eq_true_eq, v.1]
        exact Int32.not_lt.mp hb
      refine xw_insW v.2 ?_ ?_ T ?_
      · rw [← et]
        exact sl_nd (fun x y hx hy => rl_inj ok x y (by omega) (by omega))
      · rw [← et]
        have := sl_lenle (rl_f a) (fun q => decide (a q ≤ B)) (i + 1)
        unfold mt_w
        omega
      · intro t' T'
        rw [← et] at T'
        exact nm_r (nI_1 i) (ih (i + 1) t' (by omega) T')
theorem xw_make {n c : Nat} {a t lb wb : Nat → Int32} {B : Int32} (ok : rl_Ok n a) (hc : c ≤ n) {post : SX → Prop} (H : ∀ t', ta_B (mt_w a B c) t' → post (nI n, a, t', lb, wb)) : wpX_makeTableau post (nI n, a, t, lb, wb) (nI c) B := by
  have hn := ok.1
  have L : ∀ d i t, i + d = 100 → (∀ q, q < i → t q = nI 100) → wX_makeTableau_2 post (nI c) B (nI n) (d + 1) (nI i) a t lb wb := by
    intro d
    induction d with
    | zero =>
      intro i t hi h
      have e : i = 100 := hi
      rw [e] at h
      rw [e]
      exact br_t (nI_le (a := 100) (b := 100) (by omega) (by omega)) ⟨c + 1, xw_mk2 ok hc H c 0 t (by omega) (ta_b0 h)⟩
    | succ d ih =>
      intro i t hi h
      refine br_f (nI_ge (b := 100) (by omega) (by omega)) ⟨vp_in_nI (by omega) (by omega), nm_r (e' := upd t i (nI 100)) (by rw [nI_clamp (by omega)]; rfl) (nm_r (nI_1 i) (ih (i + 1) _ (by omega) ?_))⟩
      intro q hq
      by_cases e : q = i
      · rw [e, pk_us]
      · rw [pk_un e]; exact h q (by omega)
  exact ⟨101, L 100 0 t (by omega) (fun q hq => absurd hq (by omega))⟩
theorem xw_fill {i j : Nat} {s : Int32} {a t lb wb : Nat → Int32} {post : Int32 → Prop} (ok : ta_Ok t) (hi : i < 10) (hj : j < 10) (h : post (nI (tv_f (ta_T t) i j))) : wpX_isFilled post (s, a, t, lb, wb) (nI i) (nI j) := by
  have e : nI i * 10 + nI j = nI (i * 10 + j) := by
    show nI i * nI 10 + nI j = _
    rw [pk_mul, nI_add]
  have v := ta_val ok hi hj
  unfold wpX_isFilled
  dsimp only
  rw [e, nI_clamp (by omega), v.1]
  refine ⟨vp_in_nI (by omega) (by omega), pk_eq (ta_T t i j) 100 (fun h1 => ?_) (fun h1 => ?_)⟩
  · have z : tv_f (ta_T t) i j = 0 := if_neg (by omega)
    rw [z] at h
    exact h
  · have z : tv_f (ta_T t) i j = 1 := if_pos (by omega)
    rw [z] at h
    exact h
theorem tv_01 (t : Nat → Nat → Nat) (i j : Nat) : tv_f t i j = 0 ∨ tv_f t i j = 1 := by
  have := tv_f1 t i j
  omega
theorem xw_row {i k b : Nat} {s : Int32} {a t lb wb : Nat → Int32} {post : Int32 → Prop} {J : Int32 → Int32 → Prop} (ok : ta_Ok t) (hi : i < 10) (hb : b < 2 ^ 31) (m : Nat) (x1 : Int32) (HJ : J (nI (m + sm_s (fun c => tv_f (ta_T t) i c) (min b 10))) (nI (i + 1))) : ∀ d j, j + d = min b 10 → wX_filledCells_21 post J x1 (nI b) (nI i) s a t lb wb (d + 1) (nI (m + sm_s (fun c => tv_f (ta_T t) i c) j)) (nI j) := by
  have h10 := Nat.min_le_right b 10
  have hbb := Nat.min_le_left b 10
  intro d
  induction d with
  | zero =>
    intro j hj
    have e : j = min b 10 := hj
    rw [e]
    by_cases h : b ≤ 10
    · exact br_t (nI_le (by omega) (by omega)) (nm_r (nI_1 i) HJ)
    · exact br_f (nI_ge (by omega) (by omega)) (br_t (nI_le (a := 10) (by omega) (by omega)) (nm_r (nI_1 i) HJ))
  | succ d ih =>
    intro j hj
    refine br_f (nI_ge (by omega) (by omega)) (br_f (nI_ge (b := 10) (by omega) (by omega)) ?_)
    refine xw_fill ok hi (by omega) ?_
    have h := ih (j + 1) (by omega)
    rw [sm_s] at h
    rcases tv_01 (ta_T t) i j with z | z
    · rw [z] at h ⊢
      exact br_t rfl (nm_r (nI_1 j) h)
    · rw [z] at h ⊢
      exact br_f (by decide) (nm_r (nI_1 _) (nm_r (nI_1 j) h))
theorem xw_cells {k b : Nat} {s : Int32} {a t lb wb : Nat → Int32} {post : Int32 → Prop} (ok : ta_Ok t) (hk : k < 2 ^ 31) (hb : b < 2 ^ 31) (h : post (nI (tv_fc (ta_T t) (min k 10) (min b 10)))) : wpX_filledCells post (s, a, t, lb, wb) (nI k) (nI b) := by
  have h10 := Nat.min_le_right k 10
  have hkk := Nat.min_le_left k 10
  have L : ∀ d i, i + d = min k 10 → wX_filledCells_5 post (nI k) (nI b) s a t lb wb (d + 1) (nI (tv_fc (ta_T t) i (min b 10))) (nI i) := by
    intro d
    induction d with
    | zero =>
      intro i hi
      have e : i = min k 10 := hi
      rw [e]
      by_cases h2 : k ≤ 10
      · exact br_t (nI_le (by omega) (by omega)) h
      · exact br_f (nI_ge (by omega) (by omega)) (br_t (nI_le (a := 10) (by omega) (by omega)) h)
    | succ d ih =>
      intro i hi
      refine br_f (nI_ge (by omega) (by omega)) (br_f (nI_ge (b := 10) (by omega) (by omega)) ⟨min b 10 + 1, ?_⟩)
      exact xw_row (k := k) ok (by omega) hb (tv_fc (ta_T t) i (min b 10)) (nI k) (ih (i + 1) (by omega)) (min b 10) 0 (by omega)
  exact ⟨min k 10 + 1, L (min k 10) 0 (by omega)⟩
end
