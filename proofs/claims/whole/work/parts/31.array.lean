section
/-- the tableau that the array of 100 cells holds -/
def ta_T (t : Nat → Int32) : Nat → Nat → Nat := fun r c => if c < 10 then (t (r * 10 + c)).toNatClampNeg else 0
def ta_Ok (t : Nat → Int32) : Prop := ∀ q, q < 100 → ∃ v : Nat, v ≤ 100 ∧ t q = nI v
theorem ta_val {t : Nat → Int32} (h : ta_Ok t) {r c : Nat} (hr : r < 10) (hc : c < 10) : t (r * 10 + c) = nI (ta_T t r c) ∧ ta_T t r c ≤ 100 := by
  obtain ⟨v, hv, e⟩ := h (r * 10 + c) (by omega)
  unfold ta_T
  rw [if_pos hc, e, nI_clamp (by omega)]
  exact ⟨rfl, hv⟩
theorem ta_upd (t : Nat → Int32) {i j x : Nat} (hj : j < 10) (hx : x < 2 ^ 31) : ta_T (upd t (i * 10 + j) (nI x)) = tb_u (ta_T t) i j x := by
  funext r c
  unfold ta_T tb_u upd
  dsimp only
  by_cases c10 : c < 10
  · by_cases e : r = i ∧ c = j
    · rw [if_pos c10, if_pos e, if_pos (by omega), nI_clamp hx]
    · rw [if_pos c10, if_neg e, if_neg (by omega), if_pos c10]
  · rw [if_neg c10, if_neg (by omega), if_neg c10]
theorem ta_updOk {t : Nat → Int32} (h : ta_Ok t) (q : Nat) {x : Nat} (hx : x ≤ 100) : ta_Ok (upd t q (nI x)) := by
  intro r hr
  by_cases e : r = q
  · rw [e, pk_us]; exact ⟨x, hx, rfl⟩
  · rw [pk_un e]; exact h r hr
theorem ta_fr {t : Nat → Int32} (h : ∀ q, q < 100 → t q = nI 100) : ta_Ok t ∧ ∀ i j, i < 10 → j < 10 → ta_T t i j = 100 := by
  refine ⟨fun q hq => ⟨100, Nat.le_refl _, h q hq⟩, fun i j hi hj => ?_⟩
  unfold ta_T
  rw [if_pos hj, h _ (by omega), nI_clamp (by omega)]
/-- the array holds a tableau of the word w -/
def ta_B (w : List Nat) (t : Nat → Int32) : Prop := ta_Ok t ∧ tb_T (ta_T t) ∧ kn_E w (tb_w (ta_T t) 0 10)
/-- an insertion under way: the lines below i are done, c is carried -/
def ta_I (w : List Nat) (t : Nat → Int32) (i c : Nat) : Prop := ta_Ok t ∧ tb_I w (ta_T t) i c
theorem ta_b0 {t : Nat → Int32} (h : ∀ q, q < 100 → t q = nI 100) : ta_B [] t := by
  have h1 := ta_fr h
  have h2 := tb_free h1.2
  exact ⟨h1.1, h2.1, h2.2⟩
theorem ta_bI {w : List Nat} {t : Nat → Int32} {x : Nat} (h : ta_B w t) (hx : x < 100) : ta_I (w ++ [x]) t 0 x := ⟨h.1, tb_begin h.2.1 hx h.2.2⟩
theorem ta_Ib {w : List Nat} (hl : w.length ≤ 10) {t : Nat → Int32} {c : Nat} (h : ta_I w t 10 c) : ta_B w t := ⟨h.1, tb_end hl h.2⟩
theorem ta_s {w : List Nat} (hn : w.Nodup) (hl : w.length ≤ 10) {t : Nat → Int32} {i c : Nat} (I : ta_I w t i c) (hi : i < 10) (hc : c < 100) {j : Nat} (hj : j ≤ 10) (lo : ∀ q, q < j → ta_T t i q ≤ c) (up : j < 10 → c < ta_T t i j) : j < 10 ∧ ta_I w (upd t (i * 10 + j) (nI c)) (i + 1) (ta_T t i j) := by
  obtain ⟨h1, h2⟩ := tb_step hn hl I.2 hi hc hj lo up
  refine ⟨h1, ta_updOk I.1 _ (by omega), ?_⟩
  rw [ta_upd t h1 (by omega)]
  exact h2
theorem ta_c {w : List Nat} {t : Nat → Int32} {i c : Nat} (I : ta_I w t i c) : c ≤ 100 := I.2.2.1
theorem ta_sk {w : List Nat} {t : Nat → Int32} {i : Nat} (I : ta_I w t i 100) (hi : i < 10) : ta_I w t (i + 1) 100 := ⟨I.1, tb_skip I.2 hi⟩
end
