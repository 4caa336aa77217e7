section
theorem yb_or (a b : Nat) : nI a ||| nI b = nI (a ||| b) := by
  apply Int32.toBitVec_inj.1
  show BitVec.ofNat 32 a ||| BitVec.ofNat 32 b = BitVec.ofNat 32 (a ||| b)
  apply BitVec.eq_of_getLsbD_eq
  intro i hi
  simp [hi]
theorem yb_bit {p i : Nat} (hp : p < 2 ^ 31) (hi : i < 32) : (nI p >>> (nI i &&& 31)) &&& 1 = nI (if p.testBit i = true then 1 else 0) := by
  rw [pk_shrN hp _ i (s_l i hi)]
  show nI (p / 2 ^ i) &&& nI 1 = _
  rw [nx_and, Nat.and_one_is_mod, Nat.testBit_eq_decide_div_mod_eq]
  congr 1
  by_cases h : p / 2 ^ i % 2 = 1
  · simp [h]
  · have : p / 2 ^ i % 2 = 0 := by omega
    simp [this]
theorem yb_one {i : Nat} (hi : i < 31) : (1 : Int32) <<< (nI i &&& 31) = nI (2 ^ i) := by
  have h1 : 2 ^ i < 2 ^ 32 := Nat.pow_lt_pow_right (by decide) (by omega)
  have h := pk_shlN (n := 1) (nI i &&& 31) i (s_l i (by omega)) (by rw [Nat.one_mul]; exact h1)
  rw [Nat.one_mul] at h
  exact h
theorem yb_p10 {n : Nat} (hn : n ≤ 10) : 2 ^ n ≤ 1024 := Nat.pow_le_pow_right (by decide) hn
theorem yb_sub {p w n : Nat} (hp : p < 2 ^ n) : p &&& w = p ↔ ∀ i, i < n → p.testBit i = true → w.testBit i = true := by
  constructor
  · intro h i _ hi
    have e := congrArg (fun z => z.testBit i) h
    simp only [Nat.testBit_and, hi, Bool.true_and] at e
    exact e
  · intro h
    apply Nat.eq_of_testBit_eq
    intro i
    rw [Nat.testBit_and]
    by_cases hi : i < n
    · by_cases hb : p.testBit i = true
      · rw [hb, h i hi hb]; rfl
      · have : p.testBit i = false := by simpa using hb
        rw [this]; rfl
    · have : p.testBit i = false := Nat.testBit_lt_two_pow (Nat.lt_of_lt_of_le hp (Nat.pow_le_pow_right (by decide) (by omega)))
      rw [this]; rfl
theorem yb_size {f : Nat → Nat} {p n : Nat} (hn : n ≤ 10) (hp : p < 2 ^ n) : sm_s (fun i => if p.testBit i = true then 1 else 0) 10 = (sl_l f p.testBit n).length := by
  rw [sl_len]
  have h := sm_tail (f := fun i => if p.testBit i = true then 1 else 0) (a := n) (10 - n) (fun i h1 _ => by
    have : p.testBit i = false := Nat.testBit_lt_two_pow (Nat.lt_of_lt_of_le hp (Nat.pow_le_pow_right (by decide) h1))
    simp [this])
  rwa [show n + (10 - n) = 10 by omega] at h
theorem yb_all {n i : Nat} : (2 ^ n - 1).testBit i = decide (i < n) := Nat.testBit_two_pow_sub_one n i
theorem yb_wi {w i : Nat} {c : Nat → Bool} (hw : w < 2 ^ i) (h : ∀ q, w.testBit q = (decide (q < i) && c q)) (hc : c i = true) : w ||| 2 ^ i < 2 ^ (i + 1) ∧ ∀ q, (w ||| 2 ^ i).testBit q = (decide (q < i + 1) && c q) := by
  constructor
  · exact Nat.or_lt_two_pow (Nat.lt_of_lt_of_le hw (Nat.pow_le_pow_right (by decide) (by omega))) (Nat.pow_lt_pow_right (by decide) (by omega))
  · intro q
    rw [Nat.testBit_or, h q, Nat.testBit_two_pow]
    by_cases e : i = q
    · rw [← e, hc]; simp
    · by_cases e2 : q < i
      · have e3 : q < i + 1 := by omega
        simp [e, e2, e3]
      · have e3 : ¬ q < i + 1 := by omega
        simp [e, e2, e3]
theorem yb_wn {w i : Nat} {c : Nat → Bool} (hw : w < 2 ^ i) (h : ∀ q, w.testBit q = (decide (q < i) && c q)) (hc : ¬ c i = true) : w < 2 ^ (i + 1) ∧ ∀ q, w.testBit q = (decide (q < i + 1) && c q) := by
  constructor
  · exact Nat.lt_of_lt_of_le hw (Nat.pow_le_pow_right (by decide) (by omega))
  · intro q
    rw [h q]
    by_cases e : i = q
    · have : c q = false := by rw [← e]; simpa using hc
      simp [this]
    · by_cases e2 : q < i
      · have e3 : q < i + 1 := by omega
        simp [e2, e3]
      · have e3 : ¬ q < i + 1 := by omega
        simp [e2, e3]
end
