section
def tv_f (t : Nat → Nat → Nat) (i j : Nat) : Nat := if t i j < 100 then 1 else 0
/-- filled cells of the first a lines and b columns -/
def tv_fc (t : Nat → Nat → Nat) (a b : Nat) : Nat := sm_s (fun i => sm_s (fun j => tv_f t i j) b) a
theorem tv_f1 (t : Nat → Nat → Nat) (i j : Nat) : tv_f t i j ≤ 1 := by unfold tv_f; split <;> omega
theorem tv_ff {t : Nat → Nat → Nat} {i j : Nat} (h : t i j < 100) : tv_f t i j = 1 := if_pos h
theorem tv_fi {t : Nat → Nat → Nat} {i j : Nat} (h : tv_f t i j = 1) : t i j < 100 := by
  unfold tv_f at h
  split at h
  · assumption
  · omega
theorem tv_rowcl {t : Nat → Nat → Nat} (T : tb_T t) {i : Nat} (hi : i < 10) : ∀ j, j + 1 < 10 → tv_f t i (j + 1) = 1 → tv_f t i j = 1 := by
  intro j hj h
  have f := tv_fi h
  have := T.2.1 i j hi hj f
  exact tv_ff (by omega)
theorem tv_colcl {t : Nat → Nat → Nat} (T : tb_T t) {j : Nat} (hj : j < 10) : ∀ i, i + 1 < 10 → tv_f t (i + 1) j = 1 → tv_f t i j = 1 := by
  intro i hi h
  have f := tv_fi h
  have := T.2.2 i j hi hj f
  exact tv_ff (by omega)
theorem tv_flen (q : Nat → Bool) : ∀ n, ((List.range n).filter q).length = sm_s (fun j => if q j = true then 1 else 0) n := by
  intro n
  induction n with
  | zero => rfl
  | succ n ih =>
    rw [List.range_succ, List.filter_append, List.length_append, ih, sm_s]
    congr 1
    by_cases h : q n = true
    · simp [h]
    · simp [h]
theorem tv_rwlen (t : Nat → Nat → Nat) (i : Nat) : (tb_rw t i).length = sm_s (fun j => tv_f t i j) 10 := by
  unfold tb_rw
  rw [List.filter_map, List.length_map, tv_flen]
  refine sm_congr 10 (fun j _ => ?_)
  simp only [Function.comp_def, decide_eq_true_eq, tv_f]
theorem tv_wlen (t : Nat → Nat → Nat) : ∀ d, (tb_w t 0 d).length = tv_fc t d 10 := by
  intro d
  induction d with
  | zero => rfl
  | succ d ih =>
    rw [tb_top, List.length_append, ih, Nat.zero_add, tv_rwlen]
    show _ = tv_fc t d 10 + sm_s (fun j => tv_f t d j) 10
    omega
theorem tv_NBle {R : Nat → Nat → Prop} {a b : Nat} {S : List Nat} (h : a ≤ b) (H : gr_NB R a S) : gr_NB R b S := fun C h1 h2 => Nat.le_trans (H C h1 h2) h
theorem tv_both {C : List Nat} (h1 : C.Pairwise (fun a b => a < b)) (h2 : C.Pairwise (fun a b => b < a)) : C.length ≤ 1 := by
  cases C with
  | nil => exact Nat.zero_le _
  | cons a C =>
    cases C with
    | nil => exact Nat.le_refl _
    | cons b C =>
      have e1 := (List.pairwise_cons.mp h1).1 b (by simp)
      have e2 := (List.pairwise_cons.mp h2).1 b (by simp)
      omega
theorem tv_NBrows {t : Nat → Nat → Nat} (T : tb_T t) : ∀ d, d ≤ 10 → gr_NB (fun a b => b < a) d (tb_w t 0 d) := by
  intro d
  induction d with
  | zero =>
    intro _ C h1 _
    have h1 : List.Sublist C [] := h1
    rw [List.sublist_nil.mp h1]
    exact Nat.le_refl _
  | succ d ih =>
    intro hd C h1 h2
    rw [tb_top, Nat.zero_add] at h1
    obtain ⟨C1, C2, rfl, s1, s2⟩ := List.sublist_append_iff.mp h1
    obtain ⟨p1, p2, _⟩ := List.pairwise_append.mp h2
    have a1 := tv_both ((tb_pw T (by omega : d < 10)).sublist s1) p1
    have a2 := ih (by omega) C2 s2 p2
    rw [List.length_append]
    omega
/-- the first k lines have no falling chain longer than k -/
theorem tv_reachG {t : Nat → Nat → Nat} (T : tb_T t) (k : Nat) : gr_G (fun a b => b < a) k (tb_w t 0 10) (tv_fc t (min k 10) 10) := by
  refine ⟨tb_w t 0 (min k 10), ?_, tv_wlen t _, tv_NBle (Nat.min_le_left k 10) (tv_NBrows T _ (Nat.min_le_right k 10))⟩
  have e : (10 : Nat) = min k 10 + (10 - min k 10) := by have := Nat.min_le_right k 10; omega
  have h := tb_wA t 0 (min k 10) (10 - min k 10)
  rw [← e] at h
  rw [h]
  exact List.sublist_append_right _ _
theorem tv_topL {t : Nat → Nat → Nat} (T : tb_T t) {k : Nat} : ∀ d, d ≤ 10 → ∀ S : List Nat, List.Sublist S (tb_w t 0 d) → gr_NB (fun a b => a < b) k S → S.length ≤ tv_fc t d (min k 10) := by
  intro d
  induction d with
  | zero =>
    intro _ S h _
    have h : List.Sublist S [] := h
    rw [List.sublist_nil.mp h]
    exact Nat.le_refl _
  | succ d ih =>
    intro hd S h hb
    rw [tb_top, Nat.zero_add] at h
    obtain ⟨S1, S2, rfl, s1, s2⟩ := List.sublist_append_iff.mp h
    have b2 := ih (by omega) S2 s2 (fun C c1 c2 => hb C (c1.trans (List.sublist_append_right _ _)) c2)
    have p1 := (tb_pw T (by omega : d < 10)).sublist s1
    have b1 := hb S1 (List.sublist_append_left _ _) p1
    have b3 := s1.length_le
    rw [tv_rwlen] at b3
    have b4 := sm_cl (f := fun j => tv_f t d j) (tv_f1 t d) (tv_rowcl T (by omega)) b1 b3
    rw [List.length_append]
    show _ ≤ tv_fc t d (min k 10) + sm_s (fun j => tv_f t d j) (min k 10)
    omega
/-- the cells of line i, then of the lines i .. i + d - 1, in the reading word's order -/
def tv_cr (t : Nat → Nat → Nat) (i : Nat) : List (Nat × Nat) := ((List.range 10).filter (fun j => decide (t i j < 100))).map (fun j => (i, j))
def tv_cw (t : Nat → Nat → Nat) : Nat → List (Nat × Nat)
  | 0 => []
  | d + 1 => tv_cr t d ++ tv_cw t d
theorem tv_crw (t : Nat → Nat → Nat) (i : Nat) : (tv_cr t i).map (fun c => t c.1 c.2) = tb_rw t i := by
  unfold tv_cr tb_rw
  rw [List.filter_map, List.map_map]
  rfl
theorem tv_cww (t : Nat → Nat → Nat) : ∀ d, (tv_cw t d).map (fun c => t c.1 c.2) = tb_w t 0 d := by
  intro d
  induction d with
  | zero => rfl
  | succ d ih => rw [tb_top, Nat.zero_add, tv_cw, List.map_append, ih, tv_crw]
theorem tv_crm {t : Nat → Nat → Nat} {i : Nat} {c : Nat × Nat} (h : c ∈ tv_cr t i) : c.1 = i ∧ c.2 < 10 ∧ t c.1 c.2 < 100 := by
  obtain ⟨j, hj, rfl⟩ := List.mem_map.mp h
  obtain ⟨h1, h2⟩ := List.mem_filter.mp hj
  exact ⟨rfl, List.mem_range.mp h1, by simpa using h2⟩
theorem tv_cwm {t : Nat → Nat → Nat} : ∀ {d : Nat} {c : Nat × Nat}, c ∈ tv_cw t d → c.1 < d ∧ c.2 < 10 ∧ t c.1 c.2 < 100 := by
  intro d
  induction d with
  | zero => intro c h; exact absurd (show c ∈ [] from h) (by simp)
  | succ d ih =>
    intro c h
    rcases List.mem_append.mp h with h | h
    · obtain ⟨h1, h2, h3⟩ := tv_crm h
      exact ⟨by omega, h2, h3⟩
    · obtain ⟨h1, h2, h3⟩ := ih h
      exact ⟨by omega, h2, h3⟩
def tv_o (a b : Nat × Nat) : Prop := b.1 < a.1 ∨ (a.1 = b.1 ∧ a.2 < b.2)
theorem tv_cwp (t : Nat → Nat → Nat) : ∀ d, (tv_cw t d).Pairwise tv_o := by
  intro d
  induction d with
  | zero => exact List.Pairwise.nil
  | succ d ih =>
    refine List.pairwise_append.mpr ⟨?_, ih, ?_⟩
    · unfold tv_cr
      rw [List.pairwise_map]
      exact ((List.pairwise_lt_range (n := 10)).filter _).imp (fun h => Or.inr ⟨rfl, h⟩)
    · intro a ha b hb
      left
      have h1 := (tv_crm ha).1
      have h2 := (tv_cwm hb).1
      omega
theorem tv_part (n : Nat) : ∀ C : List (Nat × Nat), (∀ c, c ∈ C → c.2 < n) → C.length = sm_s (fun j => (C.filter (fun c => decide (c.2 = j))).length) n := by
  intro C
  induction C with
  | nil => intro _; exact (sm_zero n (fun _ _ => rfl)).symm
  | cons c C ih =>
    intro h
    have h1 := ih (fun x hx => h x (by simp [hx]))
    have e : ∀ j, (((c :: C).filter (fun c => decide (c.2 = j))).length) = (if c.2 = j then 1 else 0) + (C.filter (fun c => decide (c.2 = j))).length := by
      intro j
      by_cases hj : c.2 = j
      · rw [List.filter_cons_of_pos (by simpa using hj), if_pos hj, List.length_cons, Nat.add_comm]
      · rw [List.filter_cons_of_neg (by simpa using hj), if_neg hj, Nat.zero_add]
    rw [sm_congr n (fun j _ => e j), sm_add, sm_delta, if_pos (h c (by simp)), List.length_cons, h1, Nat.add_comm]
theorem tv_topG {t : Nat → Nat → Nat} (T : tb_T t) {k m : Nat} (h : gr_G (fun a b => b < a) k (tb_w t 0 10) m) : m ≤ tv_fc t (min k 10) 10 := by
  obtain ⟨S, hS, rfl, hb⟩ := h
  rw [← tv_cww] at hS
  obtain ⟨C, hC, rfl⟩ := List.sublist_map_iff.mp hS
  have mC : ∀ c, c ∈ C → c.1 < 10 ∧ c.2 < 10 ∧ t c.1 c.2 < 100 := fun c hc => tv_cwm (hC.subset hc)
  have pC := (tv_cwp t 10).sublist hC
  rw [List.length_map, tv_part 10 C (fun c hc => (mC c hc).2.1)]
  unfold tv_fc
  rw [sm_swap]
  refine sm_le 10 (fun j hj => ?_)
  have hsub : List.Sublist (C.filter (fun c => decide (c.2 = j))) C := List.filter_sublist
  have hp : (C.filter (fun c => decide (c.2 = j))).Pairwise (fun a b => b.1 < a.1 ∧ a.2 = j ∧ b.2 = j) := by
    refine List.Pairwise.imp_of_mem ?_ (pC.sublist hsub)
    intro a b ha hb' o
    have e1 : a.2 = j := by simpa using (List.mem_filter.mp ha).2
    have e2 : b.2 = j := by simpa using (List.mem_filter.mp hb').2
    rcases o with o | o
    · exact ⟨o, e1, e2⟩
    · omega
  have l1 : (C.filter (fun c => decide (c.2 = j))).length ≤ k := by
    have h1 := hb ((C.filter (fun c => decide (c.2 = j))).map (fun c => t c.1 c.2)) (hsub.map _) (by
      rw [List.pairwise_map]
      refine List.Pairwise.imp_of_mem ?_ hp
      intro a b ha hb' o
      have ma := mC a (hsub.subset ha)
      obtain ⟨o1, o2, o3⟩ := o
      rw [o2] at ma ⊢
      rw [o3]
      exact tb_cl T hj ma.1 o1 ma.2.2)
    rwa [List.length_map] at h1
  have l2 : (C.filter (fun c => decide (c.2 = j))).length ≤ sm_s (fun i => tv_f t i j) 10 := by
    have h1 := sm_len (f := fun i => tv_f t i j) 10 ((C.filter (fun c => decide (c.2 = j))).map (fun c => c.1)) (by
      rw [List.pairwise_map]
      exact hp.imp (fun h => h.1)) (by
      intro x hx
      obtain ⟨c, hc, rfl⟩ := List.mem_map.mp hx
      have e1 : c.2 = j := by simpa using (List.mem_filter.mp hc).2
      have m := mC c (hsub.subset hc)
      rw [e1] at m
      exact ⟨m.1, tv_ff m.2.2⟩)
    rwa [List.length_map] at h1
  exact sm_cl (fun i => tv_f1 t i j) (tv_colcl T hj) l1 l2
theorem tv_reachL {t : Nat → Nat → Nat} (T : tb_T t) (k : Nat) : gr_G (fun a b => a < b) k (tb_w t 0 10) (tv_fc t 10 (min k 10)) := by
  refine ⟨((tv_cw t 10).filter (fun c => decide (c.2 < k))).map (fun c => t c.1 c.2), ?_, ?_, ?_⟩
  · rw [← tv_cww]
    exact List.filter_sublist.map _
  · rw [List.length_map]
    have H : ∀ d, ((tv_cw t d).filter (fun c => decide (c.2 < k))).length = tv_fc t d (min k 10) := by
      intro d
      induction d with
      | zero => rfl
      | succ d ih =>
        rw [tv_cw, List.filter_append, List.length_append, ih]
        have e : ((tv_cr t d).filter (fun c => decide (c.2 < k))).length = sm_s (fun j => tv_f t d j) (min k 10) := by
          unfold tv_cr
          rw [List.filter_map, List.length_map, List.filter_filter, tv_flen, ← sm_cut]
          refine sm_congr 10 (fun j _ => ?_)
          simp only [Function.comp_def, Bool.and_eq_true, decide_eq_true_eq, tv_f]
          by_cases h1 : j < k
          · by_cases h2 : t d j < 100
            · simp [h1, h2]
            · simp [h1, h2]
          · simp [h1]
        rw [e]
        show _ = tv_fc t d (min k 10) + sm_s (fun j => tv_f t d j) (min k 10)
        omega
    exact H 10
  · intro D hD pD
    obtain ⟨C, hC, rfl⟩ := List.sublist_map_iff.mp hD
    have hC2 : List.Sublist C (tv_cw t 10) := hC.trans List.filter_sublist
    have mC : ∀ c, c ∈ C → c.1 < 10 ∧ c.2 < 10 ∧ t c.1 c.2 < 100 := fun c hc => tv_cwm (hC2.subset hc)
    rw [List.pairwise_map] at pD
    have hp : C.Pairwise (fun a b => a.2 < b.2) := by
      refine List.Pairwise.imp_of_mem ?_ (pD.and ((tv_cwp t 10).sublist hC2))
      intro a b ha hb' o
      obtain ⟨o1, o2⟩ := o
      have ma := mC a ha
      have mb := mC b hb'
      rcases o2 with o2 | o2
      · apply Classical.byContradiction
        intro hn
        have h1 : t b.1 b.2 < t b.1 a.2 ∨ b.2 = a.2 := by
          by_cases e : b.2 = a.2
          · exact Or.inr e
          · left
            have f : t b.1 a.2 < 100 := by have := tb_cl T ma.2.1 ma.1 o2 ma.2.2; omega
            exact tb_rl T mb.1 ma.2.1 (by omega) f
        have h2 := tb_cl T ma.2.1 ma.1 o2 ma.2.2
        rcases h1 with h1 | h1
        · omega
        · rw [h1] at o1; omega
      · exact o2.2
    have h1 := sm_lenK (n := k) (L := C.map (fun c => c.2)) (by rw [List.pairwise_map]; exact hp) (by
      intro x hx
      obtain ⟨c, hc, rfl⟩ := List.mem_map.mp hx
      simpa using (List.mem_filter.mp (hC.subset hc)).2)
    rw [List.length_map] at h1 ⊢
    exact h1
/-- m is the greatest size for w -/
def gr_M (R : Nat → Nat → Prop) (k : Nat) (w : List Nat) (m : Nat) : Prop := gr_G R k w m ∧ ∀ m', gr_G R k w m' → m' ≤ m
theorem gr_Mu {R : Nat → Nat → Prop} {k : Nat} {w : List Nat} {a b : Nat} (h : gr_M R k w a) (g : gr_M R k w b) : a = b := Nat.le_antisymm (g.2 a h.1) (h.2 b g.1)
theorem tv_rise {w : List Nat} {t : Nat → Nat → Nat} (T : tb_T t) (K : kn_E w (tb_w t 0 10)) (k : Nat) : gr_M (fun a b => b < a) k w (tv_fc t (min k 10) 10) := by
  have e := K.2.1 []
  simp only [List.append_nil] at e
  exact ⟨(e k _).mpr (tv_reachG T k), fun m hm => tv_topG T ((e k m).mp hm)⟩
theorem tv_fall {w : List Nat} {t : Nat → Nat → Nat} (T : tb_T t) (K : kn_E w (tb_w t 0 10)) (k : Nat) : gr_M (fun a b => a < b) k w (tv_fc t 10 (min k 10)) := by
  have e := K.1 []
  simp only [List.append_nil] at e
  refine ⟨(e k _).mpr (tv_reachL T k), fun m hm => ?_⟩
  obtain ⟨S, s1, s2, s3⟩ := (e k m).mp hm
  rw [← s2]
  exact tv_topL T 10 (Nat.le_refl _) S s1 s3
end
