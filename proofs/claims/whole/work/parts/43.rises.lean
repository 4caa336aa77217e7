section
theorem yw_whole {n : Nat} {a be sh we wy : Nat → Int32} {post : Int32 → Prop} (hn : n ≤ 10) (h : post (nI (2 ^ n - 1))) : wpY_whole post (nI n, a, be, sh, we, wy) := by
  have e1 : (1 : Int32) <<< (nI n &&& 31) = nI (2 ^ n) := yb_one (by omega)
  have e2 : nI (2 ^ n) - 1 = nI (2 ^ n - 1) := pk_sub (b := 1) (Nat.two_pow_pos n)
  unfold wpY_whole
  dsimp only
  rw [e1, e2]
  exact h
theorem mt_tr (f : Nat → Nat) {c : Nat} : ∀ d, sl_l f (2 ^ c - 1).testBit (c + d) = sl_l f (fun _ => true) c := by
  intro d
  induction d with
  | zero => exact sl_congr c (fun i hi => ⟨by rw [yb_all]; simpa using hi, rfl⟩)
  | succ d ih =>
    show sl_l f (2 ^ c - 1).testBit (c + d + 1) = _
    rw [sl_f, ih]
    rw [yb_all, decide_eq_true_eq]
    omega
theorem mt_99 {n c : Nat} {a : Nat → Int32} (ok : rl_Ok n a) (hc : c ≤ n) : sl_l (rl_f a) (fun _ => true) c = mt_w a 99 c := by
  refine sl_congr c (fun i hi => ⟨?_, rfl⟩)
  have v := rl_val ok (by omega : i < n)
  have h : a i ≤ 99 := by
    rw [v.1]
    exact nI_le (b := 99) (by omega) (by omega)
  simpa using h
theorem mt_all {n c : Nat} {a : Nat → Int32} (ok : rl_Ok n a) (hc : c ≤ n) : sl_l (rl_f a) (2 ^ c - 1).testBit n = mt_w a 99 c := by
  have h := mt_tr (rl_f a) (c := c) (n - c)
  rw [show c + (n - c) = n by omega] at h
  rw [h, mt_99 ok hc]
theorem i_vc_rise {k : Nat} {u : SX} {v : SY} (I : i_Rel k u v) (hk : k + 3 ≤ 1536) (v1 : Int32) : wpX_rise (fun r u' => wpY_rise (fun r' v' => r' = r ∧ i_Rel (k + 3) u' v') v v1) u v1 := by
  obtain ⟨n, a, t, lb, wb, be, sh, we, wy, rfl, rfl, ok⟩ := I
  have hn := ok.1
  have h2n := yb_p10 hn
  by_cases h0 : 0 ≤ v1
  · obtain ⟨kk, hkk, rfl⟩ := nI_of (Int32.not_lt.mpr h0)
    refine br_t h0 ?_
    refine xw_make ok (Nat.le_refl n) (fun t' B => ?_)
    refine xw_cells (b := 10) B.1 hkk (by omega) ?_
    unfold wpY_rise
    dsimp only
    refine yw_whole hn (br_t h0 ?_)
    refine yw_gr (fl := 1) ok (by omega) hkk (by omega) (fun M be' hM => ⟨?_, rl_mk ok⟩)
    rw [rn_R1, mt_all ok (Nat.le_refl n)] at hM
    rw [gr_Mu hM (tv_rise B.2.1 B.2.2 kk), Nat.min_self]
  · refine br_f h0 ?_
    unfold wpY_rise
    dsimp only
    exact yw_whole hn (br_f h0 ⟨rfl, rl_mk ok⟩)
theorem i_vc_fall {k : Nat} {u : SX} {v : SY} (I : i_Rel k u v) (hk : k + 3 ≤ 1536) (v1 : Int32) : wpX_fall (fun r u' => wpY_fall (fun r' v' => r' = r ∧ i_Rel (k + 3) u' v') v v1) u v1 := by
  obtain ⟨n, a, t, lb, wb, be, sh, we, wy, rfl, rfl, ok⟩ := I
  have hn := ok.1
  have h2n := yb_p10 hn
  by_cases h0 : 0 ≤ v1
  · obtain ⟨kk, hkk, rfl⟩ := nI_of (Int32.not_lt.mpr h0)
    refine br_t h0 ?_
    refine xw_make ok (Nat.le_refl n) (fun t' B => ?_)
    refine xw_cells (k := 10) B.1 (by omega) hkk ?_
    unfold wpY_fall
    dsimp only
    refine yw_whole hn (br_t h0 ?_)
    refine yw_gr (fl := 0) ok (by omega) hkk (by omega) (fun M be' hM => ⟨?_, rl_mk ok⟩)
    rw [rn_R0, mt_all ok (Nat.le_refl n)] at hM
    rw [gr_Mu hM (tv_fall B.2.1 B.2.2 kk), Nat.min_self]
  · refine br_f h0 ?_
    unfold wpY_fall
    dsimp only
    exact yw_whole hn (br_f h0 ⟨rfl, rl_mk ok⟩)
theorem i_vc_riseOfFirst {k : Nat} {u : SX} {v : SY} (I : i_Rel k u v) (hk : k + 3 ≤ 1536) (v1 : Int32) (v2 : Int32) : wpX_riseOfFirst (fun r u' => wpY_riseOfFirst (fun r' v' => r' = r ∧ i_Rel (k + 3) u' v') v v1 v2) u v1 v2 := by
  obtain ⟨n, a, t, lb, wb, be, sh, we, wy, rfl, rfl, ok⟩ := I
  have hn := ok.1
  by_cases h1 : v1 < 0
  · exact br_t h1 (br_t h1 ⟨rfl, rl_mk ok⟩)
  · by_cases h2 : v1 ≤ nI n
    · refine br_f h1 (br_t h2 ?_)
      by_cases h0 : 0 ≤ v2
      · obtain ⟨c, hc, rfl⟩ := nI_of h1
        obtain ⟨kk, hkk, rfl⟩ := nI_of (Int32.not_lt.mpr h0)
        have hcn : c ≤ n := (nI_leI hc (by omega)).mp h2
        have h2c := yb_p10 (by omega : c ≤ 10)
        have e1 : (1 : Int32) <<< (nI c &&& 31) = nI (2 ^ c) := yb_one (by omega)
        have e2 : nI (2 ^ c) - 1 = nI (2 ^ c - 1) := pk_sub (b := 1) (Nat.two_pow_pos c)
        refine br_t h0 ?_
        refine xw_make ok hcn (fun t' B => ?_)
        refine xw_cells (b := 10) B.1 hkk (by omega) ?_
        refine br_f h1 (br_t h2 (br_t h0 ?_))
        rw [e1, e2]
        refine yw_gr (fl := 1) ok (by omega) hkk (by omega) (fun M be' hM => ⟨?_, rl_mk ok⟩)
        rw [rn_R1, mt_all ok hcn] at hM
        rw [gr_Mu hM (tv_rise B.2.1 B.2.2 kk), Nat.min_self]
      · exact br_f h0 (br_f h1 (br_t h2 (br_f h0 ⟨rfl, rl_mk ok⟩)))
    · exact br_f h1 (br_f h2 (br_f h1 (br_f h2 ⟨rfl, rl_mk ok⟩)))
theorem i_vc_riseUpTo {k : Nat} {u : SX} {v : SY} (I : i_Rel k u v) (hk : k + 3 ≤ 1536) (v1 : Int32) (v2 : Int32) : wpX_riseUpTo (fun r u' => wpY_riseUpTo (fun r' v' => r' = r ∧ i_Rel (k + 3) u' v') v v1 v2) u v1 v2 := by
  obtain ⟨n, a, t, lb, wb, be, sh, we, wy, rfl, rfl, ok⟩ := I
  have hn := ok.1
  have h2n := yb_p10 hn
  by_cases h0 : 0 ≤ v2
  · obtain ⟨kk, hkk, rfl⟩ := nI_of (Int32.not_lt.mpr h0)
    refine br_t h0 ?_
    refine xw_make ok (Nat.le_refl n) (fun t' B => ?_)
    refine xw_cells (b := 10) B.1 hkk (by omega) ?_
    refine br_t h0 ?_
    have L : ∀ (post : Int32 → SY → Prop), (∀ W, W < 2 ^ n → (∀ q, W.testBit q = (decide (q < n) && decide (a q ≤ v1))) → wpY_greatest post (nI n, a, be, sh, we, wy) (nI W) (nI kk) (nI 1)) → ∀ d i W, i + d = n → W < 2 ^ i → (∀ q, W.testBit q = (decide (q < i) && decide (a q ≤ v1))) → wY_riseUpTo_11 post v1 (nI kk) (nI n) a be sh we wy (d + 1) (nI W) (nI i) := by
      intro post H d
      induction d with
      | zero =>
        intro i W hi hW hq
        have e : i = n := hi
        rw [e] at hW hq
        rw [e]
        exact br_t (nI_le (by omega) (by omega)) (H W hW hq)
      | succ d ih =>
        intro i W hi hW hq
        have hai : a (nI i).toNatClampNeg = a i := by rw [nI_clamp (by omega)]
        have h2i := yb_p10 (by omega : i ≤ 10)
        refine br_f (nI_ge (by omega) (by omega)) (br_f (nI_ge (b := 10) (by omega) (by omega)) ⟨vp_in_nI (by omega) (by omega), ?_⟩)
        rw [hai]
        by_cases hb : v1 < a i
        · have h := yb_wn (c := fun q => decide (a q ≤ v1)) hW hq (by rw [decide_eq_true_eq]; exact Int32.not_le.mpr hb)
          exact br_t hb (nm_r (nI_1 i) (ih (i + 1) W (by omega) h.1 h.2))
        · have h := yb_wi (c := fun q => decide (a q ≤ v1)) hW hq (by rw [decide_eq_true_eq]; exact Int32.not_lt.mp hb)
          refine br_f hb (nm_r (e' := nI (W ||| 2 ^ i)) ?_ (nm_r (nI_1 i) (ih (i + 1) _ (by omega) h.1 h.2)))
          rw [yb_one (by omega), yb_or]
    refine ⟨n + 1, L _ (fun W hW hq => ?_) n 0 0 (by omega) (by omega) (fun q => ?_)⟩
    · refine yw_gr (fl := 1) ok (by omega) hkk (by omega) (fun M be' hM => ⟨?_, rl_mk ok⟩)
      have e : sl_l (rl_f a) W.testBit n = mt_w a v1 n := sl_congr n (fun i hi => ⟨by rw [hq]; simp [hi], rfl⟩)
      rw [rn_R1, e] at hM
      rw [gr_Mu hM (tv_rise B.2.1 B.2.2 kk), Nat.min_self]
    · simp
  · exact br_f h0 (br_f h0 ⟨rfl, rl_mk ok⟩)
theorem i_vc_rises {k : Nat} {u : SX} {v : SY} (I : i_Rel k u v) (hk : k + 3 ≤ 1536) : wpX_rises (fun r u' => wpY_rises (fun r' v' => r' = r ∧ i_Rel (k + 3) u' v') v) u := by
  obtain ⟨n, a, t, lb, wb, be, sh, we, wy, rfl, rfl, ok⟩ := I
  have hn := ok.1
  have h2n := yb_p10 hn
  unfold wpX_rises
  dsimp only
  refine xw_make ok (Nat.le_refl n) (fun t' B => ?_)
  refine xw_cells (k := 10) (b := 1) B.1 (by omega) (by omega) ?_
  unfold wpY_rises
  dsimp only
  refine yw_whole hn ?_
  refine yw_run (fl := 1) ok (by omega) (by omega) (fun M be' hM => ⟨?_, rl_mk ok⟩)
  rw [rn_R1] at hM
  have h := rn_rises (sl_nd (rl_inj ok)) hM
  rw [mt_all ok (Nat.le_refl n)] at h
  rw [gr_Mu h (tv_fall B.2.1 B.2.2 1), Nat.min_self]
theorem i_vc_falls {k : Nat} {u : SX} {v : SY} (I : i_Rel k u v) (hk : k + 3 ≤ 1536) : wpX_falls (fun r u' => wpY_falls (fun r' v' => r' = r ∧ i_Rel (k + 3) u' v') v) u := by
  obtain ⟨n, a, t, lb, wb, be, sh, we, wy, rfl, rfl, ok⟩ := I
  have hn := ok.1
  have h2n := yb_p10 hn
  unfold wpX_falls
  dsimp only
  refine xw_make ok (Nat.le_refl n) (fun t' B => ?_)
  refine xw_cells (k := 1) (b := 10) B.1 (by omega) (by omega) ?_
  unfold wpY_falls
  dsimp only
  refine yw_whole hn ?_
  refine yw_run (fl := 0) ok (by omega) (by omega) (fun M be' hM => ⟨?_, rl_mk ok⟩)
  rw [rn_R0] at hM
  have h := rn_falls (sl_nd (rl_inj ok)) hM
  rw [mt_all ok (Nat.le_refl n)] at h
  rw [gr_Mu h (tv_rise B.2.1 B.2.2 1), Nat.min_self]
end
