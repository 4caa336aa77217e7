section
theorem sm_mono (f : Nat → Nat) {a b : Nat} (h : a ≤ b) : sm_s f a ≤ sm_s f b := by
  have := sm_split f a (b - a)
  rw [show a + (b - a) = b by omega] at this
  omega
def wd_P (s : Nat → Nat) (k : Nat) (sh we : Nat → Int32) : Prop := (∀ q, q < k → sh q = nI (s q)) ∧ (∀ q, q ≤ k → we q = nI (mx_w s q))
theorem wd_11 {s : Nat → Nat} (h10 : s 10 = 0) (hs : sm_s s 10 ≤ 10) : sm_s s 11 ≤ 10 := by
  show sm_s s 10 + s 10 ≤ 10
  omega
theorem wd_wb {s : Nat → Nat} (h10 : s 10 = 0) (hs : sm_s s 10 ≤ 10) {k : Nat} (hk : k ≤ 11) : mx_w s k ≤ 1024 := by
  have h1 := mx_two s k
  have h2 := sm_mono s hk
  have h3 := wd_11 h10 hs
  exact Nat.le_trans h1 (yb_p10 (by omega))
theorem wd_sb {s : Nat → Nat} (h10 : s 10 = 0) (hs : sm_s s 10 ≤ 10) {k : Nat} (hk : k < 11) : s k ≤ 10 := by
  have h2 := sm_mono s (a := k + 1) (b := 11) (by omega)
  rw [sm_s] at h2
  have h3 := wd_11 h10 hs
  omega
theorem yw_part {s : Nat → Nat} {k x : Nat} {z : Int32} {a be sh we wy : Nat → Int32} {post : Int32 → Prop} (h10 : s 10 = 0) (hs : sm_s s 10 ≤ 10) (P : wd_P s 11 sh we) (hk : k < 11) (hx : x < 2 ^ 31) (h : post (nI (mx_d s x k))) : wpY_part post (z, a, be, sh, we, wy) (nI x) (nI k) := by
  have b1 := wd_wb h10 hs (by omega : k ≤ 11)
  have b2 := wd_sb h10 hs hk
  have b3 := mx_pos s k
  have ew : we (nI k).toNatClampNeg = nI (mx_w s k) := by rw [nI_clamp (by omega)]; exact P.2 k (by omega)
  have es : sh (nI k).toNatClampNeg + 1 = nI (s k + 1) := by rw [nI_clamp (by omega), P.1 k hk, nI_1]
  have hq : x / mx_w s k < 2 ^ 31 := Nat.lt_of_le_of_lt (Nat.div_le_self _ _) hx
  refine ⟨vp_in_nI (by omega) (by omega), br_t ?_ ⟨vp_in_nI (by omega) (by omega), ?_⟩⟩
  · rw [ew]; exact nI_le (a := 1) (by omega) (by omega)
  · rw [ew]
    refine ⟨nI_ne0 (by omega) (by omega), vp_in_nI (by omega) (by omega), ?_, ?_⟩
    · rw [es]; exact nI_ne0 (by omega) (by omega)
    · rw [es, pk_div hx b3 (by omega), pk_rem hq (by omega) (by omega)]
      exact h
theorem wd_An {s : Nat → Nat} {x k : Nat} (hk : k < 11) (hm : ¬ mx_m s x k = true ∨ mx_G s x = 0) (y : Nat) : mx_A s x (k + 1) y = mx_A s x k y := by
  rw [mx_Ak s hk y]
  by_cases e : y = x + mx_w s k
  · rw [if_pos e, e, mx_tx]
    rcases hm with h | h
    · rw [if_neg h]; rfl
    · rw [h]
      split <;> rfl
  · rw [if_neg e]; rfl
theorem yw_w132 {s : Nat → Nat} {x : Nat} {z x2 : Int32} {a be sh we : Nat → Int32} {post : Int32 → SY → Prop} {J : Int32 → (Nat → Int32) → (Nat → Int32) → (Nat → Int32) → (Nat → Int32) → (Nat → Int32) → Prop} (h10 : s 10 = 0) (hs : sm_s s 10 ≤ 10) (P : wd_P s 11 sh we) (hx : x < mx_w s 11) (HJ : ∀ wy' : Nat → Int32, (∀ y, y < mx_w s 11 → wy' y = nI (mx_A s x 11 y)) → J (nI (x + 1)) a be sh we wy') : ∀ d k (wy : Nat → Int32), k + d = 11 → (∀ y, y < mx_w s 11 → wy y = nI (mx_A s x k y)) → wY_words_132 post J x2 (nI x) z (d + 1) (nI k) a be sh we wy := by
  have bE := wd_wb h10 hs (Nat.le_refl 11)
  have bG := mx_Gb (s := s) (x := x) hs
  intro d
  induction d with
  | zero =>
    intro k wy hk W
    have e : k = 11 := hk
    rw [e] at W
    rw [e]
    exact br_t (nI_le (a := 11) (b := 11) (by omega) (by omega)) (nm_r (nI_1 x) (HJ wy W))
  | succ d ih =>
    intro k wy hk W
    have k11 : k < 11 := by omega
    have bs := wd_sb h10 hs k11
    have bd := mx_le s x k
    have es : sh (nI k).toNatClampNeg = nI (s k) := by rw [nI_clamp (by omega)]; exact P.1 k k11
    have skip : ¬ mx_m s x k = true → wY_words_184 post J (wY_words_132 post J x2 (nI x) z (d + 1)) x2 (nI x) (nI k) z a be sh we wy := by
      intro hm
      exact br_t rfl (nm_r (nI_1 k) (ih (k + 1) wy (by omega) (fun y hy => by rw [wd_An k11 (Or.inl hm) y]; exact W y hy)))
    have go : mx_m s x k = true → wY_words_180 post J (wY_words_132 post J x2 (nI x) z (d + 1)) x2 (nI x) (nI k) z a be sh we wy := by
      intro hm
      have ex : wy (nI x).toNatClampNeg = nI (mx_G s x) := by rw [nI_clamp (by omega), W x hx, mx_Ag h10 hs (Nat.le_refl x) hx]
      have ew : nI x + we (nI k).toNatClampNeg = nI (x + mx_w s k) := by rw [nI_clamp (by omega), P.2 k (by omega), nI_add]
      have hin := mx_in k11 hx (mx_mI.mp hm).1
      have iw : vp_in (nI x + we (nI k).toNatClampNeg) 1100 := by rw [ew]; exact vp_in_nI (by omega) (by omega)
      have eA := mx_Ak s (x := x) k11 (x + mx_w s k)
      rw [if_pos rfl, mx_tx, if_pos hm] at eA
      refine br_f (by decide) ⟨vp_in_nI (by omega) (by omega), pk_le (mx_G s x) 0 (fun h => nm_r (nI_1 k) (ih (k + 1) wy (by omega) (fun y hy => by rw [wd_An k11 (Or.inr (by omega)) y]; exact W y hy))) (fun h => ⟨vp_in_nI (by omega) (by omega), iw, vp_in_nI (by omega) (by omega), iw, nm_r (e' := upd wy (x + mx_w s k) (nI (mx_A s x (k + 1) (x + mx_w s k)))) ?_ (nm_r (nI_1 k) (ih (k + 1) _ (by omega) ?_))⟩) ex rfl (by omega) (by omega)⟩
      · rw [ex, ew, nI_clamp (by omega), W _ hin, nI_add, eA]
      · intro y hy
        by_cases e : y = x + mx_w s k
        · rw [e, pk_us]
        · rw [pk_un e, mx_Ak s k11 y, if_neg e, Nat.add_zero]
          exact W y hy
    refine br_f (nI_ge (b := 11) (by omega) (by omega)) ?_
    refine yw_part h10 hs P k11 (by omega) ⟨vp_in_nI (by omega) (by omega), pk_le (s k) (mx_d s x k) (fun h => skip ?_) (fun h => ?_) es rfl (by omega) (by omega)⟩
    · intro hm
      have := (mx_mI.mp hm).1
      omega
    · by_cases k0 : k = 0
      · refine br_t (by rw [k0]; rfl) (go ?_)
        exact mx_mI.mpr ⟨h, Or.inl k0⟩
      · have ek : nI k - 1 = nI (k - 1) := pk_sub (b := 1) (by omega)
        refine br_f (nI_ne0 (by omega) (by omega)) ?_
        refine yw_part h10 hs P k11 (by omega) ?_
        rw [ek]
        have bd2 := mx_le s x (k - 1)
        have bs2 := wd_sb h10 hs (by omega : k - 1 < 11)
        refine yw_part h10 hs P (by omega) (by omega) (pk_le (mx_d s x (k - 1)) (mx_d s x k) (fun h2 => skip ?_) (fun h2 => go ?_))
        · intro hm
          rcases (mx_mI.mp hm).2 with c | c
          · exact k0 c
          · omega
        · exact mx_mI.mpr ⟨h, Or.inr h2⟩
theorem yw_w117 {s : Nat → Nat} {z : Int32} {a be sh we : Nat → Int32} {post : Int32 → SY → Prop} (h10 : s 10 = 0) (hs : sm_s s 10 ≤ 10) (P : wd_P s 11 sh we) (H : ∀ wy', post (nI (mx_G s (mx_w s 11 - 1))) (z, a, be, sh, we, wy')) : ∀ d x (wy : Nat → Int32), x + d = mx_w s 11 → (∀ y, y < mx_w s 11 → wy y = nI (mx_A s x 0 y)) → wY_words_117 post (nI (mx_w s 11)) z (d + 1) (nI x) a be sh we wy := by
  have bE := wd_wb h10 hs (Nat.le_refl 11)
  have pE := mx_pos s 11
  have eE : nI (mx_w s 11) - 1 = nI (mx_w s 11 - 1) := pk_sub (b := 1) (by omega)
  intro d
  induction d with
  | zero =>
    intro x wy hx W
    have e : x = mx_w s 11 := hx
    rw [e] at W
    rw [e]
    refine br_t (nI_le (by omega) (by omega)) ?_
    rw [eE, nI_clamp (by omega), W _ (by omega), mx_Ag h10 hs (by omega) (by omega)]
    exact ⟨vp_in_nI (by omega) (by omega), H wy⟩
  | succ d ih =>
    intro x wy hx W
    refine br_f (nI_ge (by omega) (by omega)) (br_f (nI_ge (b := 1100) (by omega) (by omega)) ⟨12, ?_⟩)
    exact yw_w132 h10 hs P (by omega) (fun wy' W' => ih (x + 1) wy' (by omega) (fun y hy => by rw [← mx_An]; exact W' y hy)) 11 0 wy (by omega) W
theorem yw_w82 {s : Nat → Nat} {z : Int32} {a be sh we : Nat → Int32} {post : Int32 → SY → Prop} (h10 : s 10 = 0) (hs : sm_s s 10 ≤ 10) (P : wd_P s 11 sh we) (H : ∀ wy', post (nI (mx_G s (mx_w s 11 - 1))) (z, a, be, sh, we, wy')) : ∀ d x (wy : Nat → Int32), x + d = mx_w s 11 → (∀ y, y < x → wy y = nI (if y = 0 then 1 else 0)) → wY_words_82 post (nI (mx_w s 11)) z (d + 1) (nI x) a be sh we wy := by
  have bE := wd_wb h10 hs (Nat.le_refl 11)
  intro d
  induction d with
  | zero =>
    intro x wy hx W
    have e : x = mx_w s 11 := hx
    rw [e] at W
    rw [e]
    exact br_t (nI_le (by omega) (by omega)) ⟨mx_w s 11 + 1, yw_w117 h10 hs P H (mx_w s 11) 0 wy (by omega) (fun y hy => by rw [mx_A0]; exact W y hy)⟩
  | succ d ih =>
    intro x wy hx W
    have st : ∀ v, v = (if x = 0 then 1 else 0) → ∀ y, y < x + 1 → upd wy x (nI v) y = nI (if y = 0 then 1 else 0) := by
      intro v hv y hy
      by_cases e : y = x
      · rw [e, pk_us, hv]
      · rw [pk_un e]; exact W y (by omega)
    refine br_f (nI_ge (by omega) (by omega)) (br_f (nI_ge (b := 1100) (by omega) (by omega)) (pk_eq x 0 (fun h => ⟨vp_in_nI (by omega) (by omega), nm_r (e' := upd wy x (nI 1)) ?_ (nm_r (nI_1 x) (ih (x + 1) _ (by omega) (st 1 (if_pos h).symm)))⟩) (fun h => ⟨vp_in_nI (by omega) (by omega), nm_r (e' := upd wy x (nI 0)) ?_ (nm_r (nI_1 x) (ih (x + 1) _ (by omega) (st 0 (if_neg h).symm)))⟩)))
    · rw [nI_clamp (by omega)]; rfl
    · rw [nI_clamp (by omega)]; rfl
theorem yw_words {s : Nat → Nat} {n : Nat} {a be sh we wy : Nat → Int32} {post : Int32 → SY → Prop} (ok : rl_Ok n a) (h10 : s 10 = 0) (hs : sm_s s 10 ≤ 10) (hG : ∀ k M M', k < 11 → gr_M (fun a b => b < a) (k + 1) (mt_w a 99 n) M → gr_M (fun a b => b < a) k (mt_w a 99 n) M' → M' ≤ M ∧ M - M' = s k) (H : ∀ be' sh' we' wy', post (nI (mx_G s (mx_w s 11 - 1))) (nI n, a, be', sh', we', wy')) : wpY_words post (nI n, a, be, sh, we, wy) := by
  have hn := ok.1
  have h2n := yb_p10 hn
  have L : ∀ d k (be sh we : Nat → Int32), k + d = 11 → wd_P s k sh we → wY_words_14 post (nI (2 ^ n - 1)) (d + 1) (nI k) (nI n) a be sh we wy := by
    intro d
    induction d with
    | zero =>
      intro k be sh we hk P
      have e : k = 11 := hk
      rw [e] at P
      rw [e]
      exact br_t (nI_le (a := 11) (b := 11) (by omega) (by omega)) (nm_r (e' := nI (mx_w s 11)) (P.2 11 (Nat.le_refl 11)) ⟨mx_w s 11 + 1, yw_w82 h10 hs P (fun wy' => H be sh we wy') (mx_w s 11) 0 wy (by omega) (fun y hy => absurd hy (by omega))⟩)
    | succ d ih =>
      intro k be sh we hk P
      refine br_f (nI_ge (b := 11) (by omega) (by omega)) ?_
      rw [nI_1 k]
      refine yw_gr (k := k + 1) (fl := 1) ok (by omega) (by omega) (by omega) (fun M be' hM => ?_)
      refine yw_gr (k := k) (fl := 1) ok (by omega) (by omega) (by omega) (fun M' be'' hM' => ?_)
      rw [rn_R1, mt_all ok (Nat.le_refl n)] at hM hM'
      obtain ⟨hle, hd⟩ := hG k M M' (by omega) hM hM'
      refine ⟨vp_in_nI (by omega) (by omega), nm_r (e' := upd sh k (nI (s k))) ?_ ⟨vp_in_nI (by omega) (by omega), vp_in_nI (by omega) (by omega), vp_in_nI (by omega) (by omega), nm_r (e' := upd we (k + 1) (nI (mx_w s (k + 1)))) ?_ (nm_e (ih (k + 1) be'' _ _ (by omega) ⟨?_, ?_⟩))⟩⟩
      · rw [nI_clamp (by omega), pk_sub hle, hd]
      · rw [nI_clamp (by omega : k + 1 < 2 ^ 31), nI_clamp (by omega : k < 2 ^ 31), pk_us, P.2 k (Nat.le_refl k), nI_1, pk_mul]
        rfl
      · intro q hq
        by_cases e : q = k
        · rw [e, pk_us]
        · rw [pk_un e]; exact P.1 q (by omega)
      · intro q hq
        by_cases e : q = k + 1
        · rw [e, pk_us]
        · rw [pk_un e]; exact P.2 q (by omega)
  unfold wpY_words
  dsimp only
  refine yw_whole hn (nm_r (e' := upd we 0 (nI 1)) rfl ⟨12, L 11 0 be sh _ (by omega) ⟨fun q hq => absurd hq (by omega), fun q hq => ?_⟩⟩)
  have e : q = 0 := by omega
  rw [e, pk_us]
  rfl
end
