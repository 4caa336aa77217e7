section
/-- the first n places of the row hold different numbers below 100 -/
def rl_Ok (n : Nat) (a : Nat → Int32) : Prop := n ≤ 10 ∧ (∀ i, i < n → ∃ v : Nat, v < 100 ∧ a i = nI v) ∧ (∀ i j, i < n → j < n → a i = a j → i = j)
/-- same length, same row; all else is free -/
def i_Rel (_ : Nat) (u : SX) (v : SY) : Prop := ∃ (n : Nat) (a t lb wb be sh we wy : Nat → Int32), u = (nI n, a, t, lb, wb) ∧ v = (nI n, a, be, sh, we, wy) ∧ rl_Ok n a
theorem i_up {k : Nat} {u : SX} {v : SY} (h : i_Rel k u v) : i_Rel (k + 3) u v := h
def rl_f (a : Nat → Int32) (i : Nat) : Nat := (a i).toNatClampNeg
theorem rl_val {n : Nat} {a : Nat → Int32} (h : rl_Ok n a) {i : Nat} (hi : i < n) : a i = nI (rl_f a i) ∧ rl_f a i < 100 := by
  obtain ⟨v, hv, e⟩ := h.2.1 i hi
  unfold rl_f
  rw [e, nI_clamp (by omega)]
  exact ⟨rfl, hv⟩
theorem rl_inj {n : Nat} {a : Nat → Int32} (h : rl_Ok n a) : ∀ i j, i < n → j < n → rl_f a i = rl_f a j → i = j := by
  intro i j hi hj e
  refine h.2.2 i j hi hj ?_
  rw [(rl_val h hi).1, (rl_val h hj).1, e]
theorem rl_lt {n : Nat} {a : Nat → Int32} (h : rl_Ok n a) {i j : Nat} (hi : i < n) (hj : j < n) : a i < a j ↔ rl_f a i < rl_f a j := by
  have h1 := rl_val h hi
  have h2 := rl_val h hj
  rw [h1.1, h2.1, nI_ltI (by omega) (by omega)]
def rl_sw (a : Nat → Int32) (i j : Nat) : Nat → Int32 := upd (upd a i (a j)) j (a i)
theorem rl_swq (a : Nat → Int32) (i j q : Nat) : rl_sw a i j q = a (if q = j then i else if q = i then j else q) := by
  unfold rl_sw upd
  by_cases h1 : q = j
  · simp [h1]
  · by_cases h2 : q = i
    · subst h2
      simp [h1]
    · simp [h1, h2]
theorem rl_swOk {n : Nat} {a : Nat → Int32} (h : rl_Ok n a) {i j : Nat} (hi : i < n) (hj : j < n) : rl_Ok n (rl_sw a i j) := by
  refine ⟨h.1, fun q hq => ?_, fun q r hq hr e => ?_⟩
  · rw [rl_swq]
    refine h.2.1 _ ?_
    split
    · exact hi
    · split
      · exact hj
      · exact hq
  · rw [rl_swq, rl_swq] at e
    have e2 := h.2.2 _ _ (by split; exact hi; split; exact hj; exact hq) (by split; exact hi; split; exact hj; exact hr) e
    by_cases q1 : q = j
    · by_cases r1 : r = j
      · omega
      · rw [if_pos q1, if_neg r1] at e2
        by_cases r2 : r = i
        · rw [if_pos r2] at e2; omega
        · rw [if_neg r2] at e2; omega
    · rw [if_neg q1] at e2
      by_cases q2 : q = i
      · rw [if_pos q2] at e2
        by_cases r1 : r = j
        · rw [if_pos r1] at e2; omega
        · rw [if_neg r1] at e2
          by_cases r2 : r = i
          · omega
          · rw [if_neg r2] at e2; omega
      · rw [if_neg q2] at e2
        by_cases r1 : r = j
        · rw [if_pos r1] at e2; omega
        · rw [if_neg r1] at e2
          by_cases r2 : r = i
          · rw [if_pos r2] at e2; omega
          · rw [if_neg r2] at e2; exact e2
theorem rl_push {n v : Nat} {a : Nat → Int32} (h : rl_Ok n a) (hn : n < 10) (hv : v < 100) (hd : ∀ i, i < n → a i ≠ nI v) : rl_Ok (n + 1) (upd a n (nI v)) := by
  refine ⟨by omega, fun q hq => ?_, fun q r hq hr e => ?_⟩
  · by_cases c : q = n
    · rw [c, pk_us]; exact ⟨v, hv, rfl⟩
    · rw [pk_un c]; exact h.2.1 q (by omega)
  · by_cases c : q = n
    · by_cases d : r = n
      · omega
      · rw [c, pk_us, pk_un d] at e
        exact absurd e.symm (hd r (by omega))
    · by_cases d : r = n
      · rw [d, pk_us, pk_un c] at e
        exact absurd e (hd q (by omega))
      · rw [pk_un c, pk_un d] at e
        exact h.2.2 q r (by omega) (by omega) e
theorem rl_pop {n : Nat} {a : Nat → Int32} (h : rl_Ok (n + 1) a) : rl_Ok n a := ⟨by have := h.1; omega, fun i hi => h.2.1 i (by omega), fun i j hi hj e => h.2.2 i j (by omega) (by omega) e⟩
def rl_mi (a : Nat → Int32) (n : Nat) : Nat → Int32 := fun q => if q < n then 99 - a q else a q
theorem rl_mi0 (a : Nat → Int32) : rl_mi a 0 = a := funext fun q => if_neg (Nat.not_lt_zero q)
theorem rl_mis (a : Nat → Int32) (i : Nat) : upd (rl_mi a i) i (99 - rl_mi a i i) = rl_mi a (i + 1) := by
  funext q
  unfold upd rl_mi
  by_cases c : q = i
  · simp [c]
  · have e : q < i + 1 ↔ q < i := by omega
    simp [c, e]
theorem rl_99 {v : Nat} (hv : v < 100) : (99 : Int32) - nI v = nI (99 - v) := pk_sub (a := 99) (by omega)
theorem rl_miOk {n : Nat} {a : Nat → Int32} (h : rl_Ok n a) : rl_Ok n (rl_mi a n) := by
  have e1 : ∀ q, q < n → rl_mi a n q = nI (99 - rl_f a q) := by
    intro q hq
    have h1 := rl_val h hq
    unfold rl_mi
    rw [if_pos hq, h1.1, rl_99 h1.2]
  refine ⟨h.1, fun q hq => ⟨_, by omega, e1 q hq⟩, fun q r hq hr e => ?_⟩
  rw [e1 q hq, e1 r hr, nI_eq (by omega) (by omega)] at e
  have h1 := rl_val h hq
  have h2 := rl_val h hr
  exact rl_inj h q r hq hr (by omega)
def rl_rv (a : Nat → Int32) (n : Nat) : Nat → Nat → Int32
  | 0 => a
  | i + 1 => rl_sw (rl_rv a n i) i (n - 1 - i)
theorem rl_rvOk {n : Nat} {a : Nat → Int32} (h : rl_Ok n a) : ∀ i, i ≤ n → rl_Ok n (rl_rv a n i) := by
  intro i
  induction i with
  | zero => intro _; exact h
  | succ i ih => intro hi; exact rl_swOk (ih (by omega)) (by omega) (by omega)
def rl_up (a : Nat → Int32) (f p : Nat) : Nat → Int32 := fun j => if f ≤ j ∧ j < p then a (j + 1) else a j
def rl_mu (a : Nat → Int32) (f p : Nat) : Nat → Int32 := fun j => if f ≤ j ∧ j < p then a (j + 1) else if j = p then a f else a j
def rl_dn (a : Nat → Int32) (f p : Nat) : Nat → Int32 := fun j => if p < j ∧ j ≤ f then a (j - 1) else a j
def rl_md (a : Nat → Int32) (f p : Nat) : Nat → Int32 := fun j => if p < j ∧ j ≤ f then a (j - 1) else if j = p then a f else a j
theorem rl_up0 (a : Nat → Int32) (f : Nat) : rl_up a f f = a := funext fun j => if_neg (by omega)
theorem rl_dn0 (a : Nat → Int32) (f : Nat) : rl_dn a f f = a := funext fun j => if_neg (by omega)
theorem rl_mu0 (a : Nat → Int32) (f : Nat) : rl_mu a f f = a := by
  funext j
  unfold rl_mu
  rw [if_neg (by omega)]
  by_cases c : j = f
  · rw [if_pos c, c]
  · rw [if_neg c]
theorem rl_md0 (a : Nat → Int32) (f : Nat) : rl_md a f f = a := by
  funext j
  unfold rl_md
  rw [if_neg (by omega)]
  by_cases c : j = f
  · rw [if_pos c, c]
  · rw [if_neg c]
theorem rl_ups (a : Nat → Int32) {f p : Nat} (h : f ≤ p) : upd (rl_up a f p) p (rl_up a f p (p + 1)) = rl_up a f (p + 1) := by
  funext j
  unfold upd rl_up
  by_cases c : j = p
  · rw [if_pos c, if_neg (by omega), if_pos (by omega), c]
  · rw [if_neg c]
    by_cases d : f ≤ j ∧ j < p
    · rw [if_pos d, if_pos (by omega)]
    · rw [if_neg d, if_neg (by omega)]
theorem rl_upE (a : Nat → Int32) (f p : Nat) : upd (rl_up a f p) p (a f) = rl_mu a f p := by
  funext j
  unfold upd rl_up rl_mu
  by_cases c : j = p
  · rw [if_pos c, if_neg (by omega), if_pos c]
  · rw [if_neg c, if_neg c]
theorem rl_mus (a : Nat → Int32) {f p : Nat} (h : f ≤ p) : rl_sw (rl_mu a f p) p (p + 1) = rl_mu a f (p + 1) := by
  funext j
  rw [rl_swq]
  unfold rl_mu
  by_cases c : j = p + 1
  · rw [if_pos c, if_neg (by omega), if_pos rfl, if_neg (by omega), if_pos c]
  · rw [if_neg c]
    by_cases d : j = p
    · rw [if_pos d, if_neg (by omega), if_neg (by omega), if_pos (by omega), d]
    · rw [if_neg d, if_neg d]
      by_cases e : f ≤ j ∧ j < p
      · rw [if_pos e, if_pos (by omega)]
      · rw [if_neg e, if_neg (by omega), if_neg c]
theorem rl_dns (a : Nat → Int32) {f p : Nat} (h : p + 1 ≤ f) : upd (rl_dn a f (p + 1)) (p + 1) (rl_dn a f (p + 1) p) = rl_dn a f p := by
  funext j
  unfold upd rl_dn
  by_cases c : j = p + 1
  · rw [if_pos c, if_neg (by omega), if_pos (by omega), c]
    rfl
  · rw [if_neg c]
    by_cases d : p + 1 < j ∧ j ≤ f
    · rw [if_pos d, if_pos (by omega)]
    · rw [if_neg d, if_neg (by omega)]
theorem rl_dnE (a : Nat → Int32) (f p : Nat) : upd (rl_dn a f p) p (a f) = rl_md a f p := by
  funext j
  unfold upd rl_dn rl_md
  by_cases c : j = p
  · rw [if_pos c, if_neg (by omega), if_pos c]
  · rw [if_neg c, if_neg c]
theorem rl_mds (a : Nat → Int32) {f p : Nat} (h : p + 1 ≤ f) : rl_sw (rl_md a f (p + 1)) (p + 1) p = rl_md a f p := by
  funext j
  rw [rl_swq]
  unfold rl_md
  by_cases c : j = p
  · rw [if_pos c, if_neg (by omega), if_pos rfl, if_neg (by omega), if_pos c]
  · rw [if_neg c]
    by_cases d : j = p + 1
    · rw [if_pos d, if_neg (by omega), if_neg (by omega), if_pos (by omega), d]
      rfl
    · rw [if_neg d, if_neg d]
      by_cases e : p + 1 < j ∧ j ≤ f
      · rw [if_pos e, if_pos (by omega)]
      · rw [if_neg e, if_neg (by omega), if_neg c]
theorem rl_muOk {n : Nat} {a : Nat → Int32} (h : rl_Ok n a) {f : Nat} : ∀ d, f + d < n → rl_Ok n (rl_mu a f (f + d)) := by
  intro d
  induction d with
  | zero => intro _; show rl_Ok n (rl_mu a f f); rw [rl_mu0]; exact h
  | succ d ih =>
    intro hd
    show rl_Ok n (rl_mu a f (f + d + 1))
    rw [← rl_mus a (by omega)]
    exact rl_swOk (ih (by omega)) (by omega) (by omega)
theorem rl_mdOk {n : Nat} {a : Nat → Int32} (h : rl_Ok n a) {f : Nat} (hf : f < n) : ∀ d p, p + d = f → rl_Ok n (rl_md a f p) := by
  intro d
  induction d with
  | zero => intro p hp; have e : p = f := hp; rw [e, rl_md0]; exact h
  | succ d ih =>
    intro p hp
    rw [← rl_mds a (by omega)]
    exact rl_swOk (ih (p + 1) (by omega)) (by omega) (by omega)
end
