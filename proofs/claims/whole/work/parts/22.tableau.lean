section
/-- the numbers of line i of a tableau, 100 for a free cell -/
def tb_rw (t : Nat → Nat → Nat) (i : Nat) : List Nat := ((List.range 10).map (t i)).filter (fun v => decide (v < 100))
/-- the reading word of the lines i .. i + d - 1: the last line first -/
def tb_w (t : Nat → Nat → Nat) : Nat → Nat → List Nat
  | _, 0 => []
  | i, d + 1 => tb_w t (i + 1) d ++ tb_rw t i
theorem tb_top (t : Nat → Nat → Nat) : ∀ d i, tb_w t i (d + 1) = tb_rw t (i + d) ++ tb_w t i d := by
  intro d
  induction d with
  | zero => intro i; simp [tb_w]
  | succ d ih =>
    intro i
    have e : i + 1 + d = i + (d + 1) := by omega
    rw [tb_w, ih (i + 1), e, tb_w, List.append_assoc]
theorem tb_rwC {t t' : Nat → Nat → Nat} {i : Nat} (h : ∀ j, j < 10 → t i j = t' i j) : tb_rw t i = tb_rw t' i := by
  unfold tb_rw
  rw [List.map_congr_left (fun j hj => h j (List.mem_range.mp hj))]
theorem tb_wC {t t' : Nat → Nat → Nat} : ∀ d i, (∀ r, i ≤ r → r < i + d → ∀ j, j < 10 → t r j = t' r j) → tb_w t i d = tb_w t' i d := by
  intro d
  induction d with
  | zero => intro i _; rfl
  | succ d ih =>
    intro i h
    rw [tb_w, tb_w, ih (i + 1) (fun r h1 h2 => h r (by omega) (by omega)), tb_rwC (h i (by omega) (by omega))]
theorem tb_wA (t : Nat → Nat → Nat) (i d : Nat) : ∀ e, tb_w t i (d + e) = tb_w t (i + d) e ++ tb_w t i d := by
  intro e
  induction e with
  | zero => rfl
  | succ e ih =>
    have h1 : tb_w t i (d + (e + 1)) = tb_rw t (i + (d + e)) ++ tb_w t i (d + e) := tb_top t (d + e) i
    rw [h1, ih, tb_top t e (i + d), List.append_assoc, Nat.add_assoc]
def tb_T (t : Nat → Nat → Nat) : Prop := (∀ i j, i < 10 → j < 10 → t i j ≤ 100) ∧ (∀ i j, i < 10 → j + 1 < 10 → t i (j + 1) < 100 → t i j < t i (j + 1)) ∧ (∀ i j, i + 1 < 10 → j < 10 → t (i + 1) j < 100 → t i j < t (i + 1) j)
theorem tb_rm {t : Nat → Nat → Nat} (T : tb_T t) {i j : Nat} (hi : i < 10) : ∀ d, j + d < 10 → t i (j + d) < 100 → t i j + d ≤ t i (j + d) := by
  intro d
  induction d with
  | zero => intro _ _; exact Nat.le_refl _
  | succ d ih =>
    intro hd hf
    have h1 := T.2.1 i (j + d) hi (by omega) hf
    have h2 := ih (by omega) (by have : j + (d + 1) = j + d + 1 := rfl; rw [this] at hf; omega)
    have : j + (d + 1) = j + d + 1 := rfl
    rw [this]
    omega
theorem tb_cm {t : Nat → Nat → Nat} (T : tb_T t) {i j : Nat} (hj : j < 10) : ∀ d, i + d < 10 → t (i + d) j < 100 → t i j + d ≤ t (i + d) j := by
  intro d
  induction d with
  | zero => intro _ _; exact Nat.le_refl _
  | succ d ih =>
    intro hd hf
    have h1 := T.2.2 (i + d) j (by omega) hj hf
    have h2 := ih (by omega) (by have : i + (d + 1) = i + d + 1 := rfl; rw [this] at hf; omega)
    have : i + (d + 1) = i + d + 1 := rfl
    rw [this]
    omega
theorem tb_rl {t : Nat → Nat → Nat} (T : tb_T t) {i a b : Nat} (hi : i < 10) (hb : b < 10) (ab : a < b) (f : t i b < 100) : t i a < t i b := by
  have h := tb_rm T (i := i) (j := a) hi (b - a) (by omega) (by rwa [show a + (b - a) = b by omega])
  rw [show a + (b - a) = b by omega] at h
  omega
theorem tb_cl {t : Nat → Nat → Nat} (T : tb_T t) {a b j : Nat} (hj : j < 10) (hb : b < 10) (ab : a < b) (f : t b j < 100) : t a j < t b j := by
  have h := tb_cm T (i := a) (j := j) hj (b - a) (by omega) (by rwa [show a + (b - a) = b by omega])
  rw [show a + (b - a) = b by omega] at h
  omega
theorem tb_pw {t : Nat → Nat → Nat} (T : tb_T t) {i : Nat} (hi : i < 10) : (tb_rw t i).Pairwise (fun a b => a < b) := by
  unfold tb_rw
  rw [List.pairwise_filter, List.pairwise_map]
  refine List.Pairwise.imp_of_mem ?_ (List.pairwise_lt_range (n := 10))
  intro a b _ hb ab _ hf
  exact tb_rl T hi (List.mem_range.mp hb) ab (by simpa using hf)
theorem tb_mem {t : Nat → Nat → Nat} {i j : Nat} (hj : j < 10) (hf : t i j < 100) : t i j ∈ tb_rw t i := by
  unfold tb_rw
  rw [List.mem_filter]
  exact ⟨List.mem_map.mpr ⟨j, List.mem_range.mpr hj, rfl⟩, by simpa using hf⟩
theorem tb_rngF : ∀ j : Fin 10, List.range 10 = List.range j.val ++ j.val :: (List.range 10).drop (j.val + 1) ∧ ∀ r, r ∈ (List.range 10).drop (j.val + 1) → j.val < r ∧ r < 10 := by decide
theorem tb_rng {j : Nat} (h : j < 10) : ∃ R, List.range 10 = List.range j ++ j :: R ∧ ∀ r, r ∈ R → j < r ∧ r < 10 := ⟨_, tb_rngF ⟨j, h⟩⟩
def tb_u (t : Nat → Nat → Nat) (i j x : Nat) : Nat → Nat → Nat := fun r c => if r = i ∧ c = j then x else t r c
theorem tb_us (t : Nat → Nat → Nat) (i j x : Nat) : tb_u t i j x i j = x := if_pos ⟨rfl, rfl⟩
theorem tb_un {t : Nat → Nat → Nat} {i j x r c : Nat} (h : ¬ (r = i ∧ c = j)) : tb_u t i j x r c = t r c := if_neg h
theorem tb_split {t : Nat → Nat → Nat} (T : tb_T t) {i j x : Nat} (hi : i < 10) (hj : j < 10) (hx : x < 100) (lo : ∀ c, c < j → t i c < x) (up : x < t i j) : ∃ A C : List Nat, (∀ a, a ∈ A → a < x) ∧ tb_rw (tb_u t i j x) i = A ++ x :: C ∧ ((t i j < 100 ∧ tb_rw t i = A ++ t i j :: C) ∨ (t i j = 100 ∧ tb_rw t i = A ∧ C = [])) := by
  obtain ⟨R, eR, hR⟩ := tb_rng hj
  have mA : ∀ a, a ∈ (List.range j).map (t i) → a < x := by
    intro a ha
    obtain ⟨c, hc, rfl⟩ := List.mem_map.mp ha
    exact lo c (List.mem_range.mp hc)
  have fA : ((List.range j).map (t i)).filter (fun v => decide (v < 100)) = (List.range j).map (t i) := by
    rw [List.filter_eq_self]
    intro a ha
    have := mA a ha
    simp only [decide_eq_true_eq]
    omega
  have uA : (List.range j).map (tb_u t i j x i) = (List.range j).map (t i) :=
    List.map_congr_left (fun c hc => tb_un (by have := List.mem_range.mp hc; omega))
  have uR : R.map (tb_u t i j x i) = R.map (t i) :=
    List.map_congr_left (fun c hc => tb_un (by have := hR c hc; omega))
  refine ⟨(List.range j).map (t i), (R.map (t i)).filter (fun v => decide (v < 100)), mA, ?_, ?_⟩
  · unfold tb_rw
    rw [eR, List.map_append, List.map_cons, uA, uR, tb_us, List.filter_append, fA, List.filter_cons_of_pos (by simpa using hx)]
  · by_cases f : t i j < 100
    · left
      refine ⟨f, ?_⟩
      unfold tb_rw
      rw [eR, List.map_append, List.map_cons, List.filter_append, fA, List.filter_cons_of_pos (by simpa using f)]
    · right
      have e100 : t i j = 100 := by have := T.1 i j hi hj; omega
      have eC : (R.map (t i)).filter (fun v => decide (v < 100)) = [] := by
        rw [List.filter_eq_nil_iff]
        intro a ha
        obtain ⟨c, hc, rfl⟩ := List.mem_map.mp ha
        have hc2 := hR c hc
        simp only [decide_eq_true_eq]
        intro hf
        have := tb_rl T hi hc2.2 hc2.1 hf
        omega
      refine ⟨e100, ?_, eC⟩
      unfold tb_rw
      rw [eR, List.map_append, List.map_cons, List.filter_append, fA, List.filter_cons_of_neg (by simpa using f), eC, List.append_nil]
def tb_c (c : Nat) : List Nat := if c < 100 then [c] else []
def tb_I (w : List Nat) (t : Nat → Nat → Nat) (i c : Nat) : Prop := tb_T t ∧ c ≤ 100 ∧ kn_E w (tb_w t i (10 - i) ++ (tb_c c ++ tb_w t 0 i)) ∧ (c < 100 → i = 0 ∨ ∃ jj, jj < 10 ∧ t (i - 1) jj < c ∧ (i < 10 → c < t i jj))
theorem tb_full {t : Nat → Nat → Nat} {i : Nat} (h : ∀ j, j < 10 → t i j < 100) : (tb_rw t i).length = 10 := by
  unfold tb_rw
  rw [List.filter_eq_self.mpr]
  · simp
  · intro a ha
    obtain ⟨c, hc, rfl⟩ := List.mem_map.mp ha
    simpa using h c (List.mem_range.mp hc)
theorem tb_step {w : List Nat} (hn : w.Nodup) (hl : w.length ≤ 10) {t : Nat → Nat → Nat} {i c : Nat} (I : tb_I w t i c) (hi : i < 10) (hc : c < 100) {j : Nat} (hj : j ≤ 10) (lo : ∀ q, q < j → t i q ≤ c) (up : j < 10 → c < t i j) : j < 10 ∧ tb_I w (tb_u t i j c) (i + 1) (t i j) := by
  obtain ⟨T, _, K, Q⟩ := I
  have e10 : 10 - i = (10 - (i + 1)) + 1 := by omega
  rw [e10, tb_w] at K
  have ec : tb_c c = [c] := if_pos hc
  rw [ec] at K
  have hj10 : j < 10 := by
    apply Classical.byContradiction
    intro hnj
    have hf : (tb_rw t i).length = 10 := tb_full (fun q hq => Nat.lt_of_le_of_lt (lo q (by omega)) hc)
    have := K.2.2.length_eq
    simp only [List.length_append, List.length_cons, List.length_nil, hf] at this
    omega
  have up := up hj10
  have nd := K.2.2.nodup_iff.mp hn
  have lo' : ∀ q, q < j → t i q < c := by
    intro q hq
    have h1 := lo q hq
    have h2 : t i q ≠ c := (List.nodup_append.mp nd).2.2 (t i q) (List.mem_append.mpr (Or.inr (tb_mem (by omega) (by omega)))) c (by simp)
    omega
  have bd : t i j ≤ 100 := T.1 i j hi hj10
  refine ⟨hj10, ⟨?_, ?_, ?_⟩, bd, ?_, ?_⟩
  · intro r q hr hq
    by_cases e : r = i ∧ q = j
    · obtain ⟨rfl, rfl⟩ := e; rw [tb_us]; omega
    · rw [tb_un e]; exact T.1 r q hr hq
  · intro r q hr hq hf
    by_cases e : r = i ∧ q = j
    · obtain ⟨rfl, rfl⟩ := e
      rw [tb_us]
      rw [tb_un (by omega)] at hf ⊢
      have := T.2.1 r q hr hq hf
      omega
    · rw [tb_un e]
      by_cases e2 : r = i ∧ q + 1 = j
      · obtain ⟨rfl, e3⟩ := e2
        rw [e3, tb_us]
        exact lo' q (by omega)
      · rw [tb_un e2] at hf ⊢
        exact T.2.1 r q hr hq hf
  · intro r q hr hq hf
    by_cases e : r = i ∧ q = j
    · obtain ⟨rfl, rfl⟩ := e
      rw [tb_us]
      rw [tb_un (by omega)] at hf ⊢
      have := T.2.2 r q hr hq hf
      omega
    · rw [tb_un e]
      by_cases e2 : r + 1 = i ∧ q = j
      · obtain ⟨e3, rfl⟩ := e2
        rw [e3, tb_us]
        rcases Q hc with z | ⟨jj, hjj, h1, h2⟩
        · omega
        · have h2 := h2 hi
          have e4 : i - 1 = r := by omega
          rw [e4] at h1
          have hle : q ≤ jj := by
            apply Classical.byContradiction
            intro hn2
            have := lo jj (by omega)
            omega
          by_cases e5 : q = jj
          · rw [e5]; exact h1
          · have := tb_rl T (by omega : r < 10) hjj (by omega : q < jj) (by omega)
            omega
      · rw [tb_un e2] at hf ⊢
        exact T.2.2 r q hr hq hf
  · obtain ⟨A, C, hA, eN, hO⟩ := tb_split T hi hj10 hc lo' up
    have eH : tb_w (tb_u t i j c) (i + 1) (10 - (i + 1)) = tb_w t (i + 1) (10 - (i + 1)) := tb_wC _ _ (fun r h1 h2 q _ => tb_un (by omega))
    have eD : tb_w (tb_u t i j c) 0 (i + 1) = (A ++ c :: C) ++ tb_w t 0 i := by
      rw [tb_top, Nat.zero_add, eN, tb_wC (t := tb_u t i j c) (t' := t) i 0 (fun r h1 h2 q _ => tb_un (by omega))]
    rw [eH, eD]
    refine kn_trans K ?_
    rcases hO with ⟨f, e⟩ | ⟨f, e, eC⟩
    · have eb : tb_c (t i j) = [t i j] := if_pos f
      have hs : (A ++ t i j :: C).Pairwise (fun a b => a < b) := e ▸ tb_pw T hi
      have h := kn_row (A := A) (C := C) (U := tb_w t (i + 1) (10 - (i + 1))) (V := tb_w t 0 i) (x := c) (b := t i j) hs hA up
      rw [eb, e, List.append_assoc]
      exact h
    · have eb : tb_c (t i j) = [] := if_neg (by omega)
      rw [eb, e, eC]
      exact kn_eq (by simp)
  · intro hb
    right
    refine ⟨j, hj10, ?_, ?_⟩
    · rw [Nat.add_sub_cancel, tb_us]; exact up
    · intro h1
      rw [tb_un (by omega)]
      by_cases f : t (i + 1) j < 100
      · exact T.2.2 i j h1 hj10 f
      · omega
theorem tb_skip {w : List Nat} {t : Nat → Nat → Nat} {i : Nat} (I : tb_I w t i 100) (hi : i < 10) : tb_I w t (i + 1) 100 := by
  obtain ⟨T, h, K, _⟩ := I
  refine ⟨T, h, ?_, fun hh => absurd hh (by omega)⟩
  have e10 : 10 - i = (10 - (i + 1)) + 1 := by omega
  rw [e10, tb_w] at K
  rw [tb_top, Nat.zero_add]
  refine kn_trans K (kn_eq ?_)
  have ec : tb_c 100 = [] := if_neg (by omega)
  rw [ec]
  simp
theorem tb_long {t : Nat → Nat → Nat} : ∀ d i, (∀ r, i ≤ r → r < i + d → tb_rw t r ≠ []) → d ≤ (tb_w t i d).length := by
  intro d
  induction d with
  | zero => intro _ _; exact Nat.zero_le _
  | succ d ih =>
    intro i h
    have h1 := ih (i + 1) (fun r a b => h r (by omega) (by omega))
    have h2 := List.length_pos_iff.mpr (h i (by omega) (by omega))
    rw [tb_w, List.length_append]
    omega
theorem tb_end {w : List Nat} (hl : w.length ≤ 10) {t : Nat → Nat → Nat} {c : Nat} (I : tb_I w t 10 c) : tb_T t ∧ kn_E w (tb_w t 0 10) := by
  obtain ⟨T, hc, K, Q⟩ := I
  have e0 : tb_w t 10 (10 - 10) = [] := rfl
  rw [e0] at K
  by_cases h : c < 100
  · exfalso
    rcases Q h with z | ⟨jj, hjj, h1, _⟩
    · omega
    · have h1 : t 9 jj < c := h1
      have hL := tb_long (t := t) 10 0 (fun r _ h3 => by
        have f : t r jj < 100 := by
          by_cases e : r = 9
          · rw [e]; omega
          · have := tb_cl T hjj (by omega : 9 < 10) (by omega : r < 9) (by omega)
            omega
        exact List.ne_nil_of_mem (tb_mem hjj f))
      have := K.2.2.length_eq
      rw [tb_c, if_pos h] at this
      simp only [List.length_append, List.length_cons, List.length_nil] at this
      omega
  · rw [tb_c, if_neg h] at K
    exact ⟨T, K⟩
theorem tb_begin {w : List Nat} {t : Nat → Nat → Nat} {x : Nat} (T : tb_T t) (hx : x < 100) (K : kn_E w (tb_w t 0 10)) : tb_I (w ++ [x]) t 0 x := by
  refine ⟨T, by omega, ?_, fun _ => Or.inl rfl⟩
  have ec : tb_c x = [x] := if_pos hx
  rw [ec]
  exact kn_app [x] K
theorem tb_rw0 {t : Nat → Nat → Nat} {i : Nat} (h : ∀ j, j < 10 → t i j = 100) : tb_rw t i = [] := by
  unfold tb_rw
  rw [List.filter_eq_nil_iff]
  intro a ha
  obtain ⟨c, hc, rfl⟩ := List.mem_map.mp ha
  rw [h c (List.mem_range.mp hc)]
  decide
theorem tb_w0 {t : Nat → Nat → Nat} : ∀ d i, (∀ r, i ≤ r → r < i + d → ∀ j, j < 10 → t r j = 100) → tb_w t i d = [] := by
  intro d
  induction d with
  | zero => intro _ _; rfl
  | succ d ih =>
    intro i h
    rw [tb_w, ih (i + 1) (fun r a b => h r (by omega) (by omega)), tb_rw0 (h i (by omega) (by omega))]
    rfl
theorem tb_free {t : Nat → Nat → Nat} (h : ∀ i j, i < 10 → j < 10 → t i j = 100) : tb_T t ∧ kn_E [] (tb_w t 0 10) := by
  refine ⟨⟨fun i j hi hj => by rw [h i j hi hj]; omega, fun i j hi hj hf => ?_, fun i j hi hj hf => ?_⟩, ?_⟩
  · rw [h i (j + 1) hi hj] at hf; omega
  · rw [h (i + 1) j hi hj] at hf; omega
  · rw [tb_w0 10 0 (fun r _ h2 j hj => h r j (by omega) hj)]
    exact kn_refl _
end
