section
theorem yw_int {p i : Nat} {s : Int32} {a be sh we wy : Nat → Int32} {post : Int32 → Prop} (hp : p < 2 ^ 31) (hi : i < 32) (b : p.testBit i = true) (h : post 1) : wpY_in post (s, a, be, sh, we, wy) (nI p) (nI i) := by
  refine br_t ?_ h
  rw [yb_bit hp hi, if_pos b]
  rfl
theorem yw_inf {p i : Nat} {s : Int32} {a be sh we wy : Nat → Int32} {post : Int32 → Prop} (hp : p < 2 ^ 31) (hi : i < 32) (b : ¬ p.testBit i = true) (h : post 0) : wpY_in post (s, a, be, sh, we, wy) (nI p) (nI i) := by
  refine br_f ?_ h
  rw [yb_bit hp hi, if_neg b]
  decide
theorem yw_size {p : Nat} {s : Int32} {a be sh we wy : Nat → Int32} {post : Int32 → Prop} (hp : p < 2 ^ 31) (h : post (nI (sm_s (fun i => if p.testBit i = true then 1 else 0) 10))) : wpY_size post (s, a, be, sh, we, wy) (nI p) := by
  have L : ∀ d i, i + d = 10 → wY_size_4 post (nI p) s a be sh we wy (d + 1) (nI (sm_s (fun i => if p.testBit i = true then 1 else 0) i)) (nI i) := by
    intro d
    induction d with
    | zero =>
      intro i hi
      have e : i = 10 := hi
      rw [e]
      exact br_t (nI_le (a := 10) (b := 10) (by omega) (by omega)) h
    | succ d ih =>
      intro i hi
      refine br_f (nI_ge (b := 10) (by omega) (by omega)) (nm_r (e' := nI (sm_s (fun i => if p.testBit i = true then 1 else 0) (i + 1))) ?_ (nm_r (nI_1 i) (ih (i + 1) (by omega))))
      rw [yb_bit hp (by omega), nI_add]
      rfl
  exact ⟨11, L 10 0 (by omega)⟩
/-- chains of the reference's run: rising for 0, falling for 1 -/
def rn_R (fl : Nat) : Nat → Nat → Prop := fun x y => if fl = 0 then x < y else y < x
theorem rn_R0 : rn_R 0 = fun a b => a < b := by funext a b; exact if_pos rfl
theorem rn_R1 : rn_R 1 = fun a b => b < a := by funext a b; exact if_neg (by decide)
theorem rn_Rt (fl : Nat) : ∀ a b c, rn_R fl a b → rn_R fl b c → rn_R fl a c := by
  intro a b c h1 h2
  unfold rn_R at *
  by_cases e : fl = 0
  · rw [if_pos e] at *; omega
  · rw [if_neg e] at *; omega
theorem rn_Eb {R : Nat → Nat → Prop} {f : Nat → Nat} {b : Nat → Bool} {i m : Nat} (h : rn_E R f b i m) : m ≤ i + 1 := by
  obtain ⟨_, C, h1, _, h3⟩ := h
  have h4 := h1.length_le
  have h5 := sl_lenle f b i
  omega
theorem rn_Vb {R : Nat → Nat → Prop} {f : Nat → Nat} {b : Nat → Bool} {i v : Nat} (h : rn_V R f b i v) : v ≤ i + 1 := by
  by_cases e : b i = true
  · exact rn_Eb (h.1 e).1
  · rw [h.2 e]; omega
theorem rn_Jb {R : Nat → Nat → Prop} {f : Nat → Nat} {b : Nat → Bool} {i : Nat} {be : Nat → Nat} {j v : Nat} (h : rn_J R f b i be j v) : v ≤ i + 1 := by
  by_cases e : b i = true
  · exact rn_Eb (h.1 e).1
  · rw [h.2 e]; omega
theorem rn_Mb {R : Nat → Nat → Prop} {f : Nat → Nat} {b : Nat → Bool} {n M : Nat} (h : rn_M R f b n M) : M ≤ n := by
  obtain ⟨C, c1, _, c3⟩ := h.2
  have h4 := c1.length_le
  have h5 := sl_lenle f b n
  omega
def rn_A (R : Nat → Nat → Prop) (f : Nat → Nat) (b : Nat → Bool) (i : Nat) (be : Nat → Int32) : Prop := ∀ q, q < i → be q = nI (rl_f be q) ∧ rn_V R f b q (rl_f be q)
theorem rn_As {R : Nat → Nat → Prop} {f : Nat → Nat} {b : Nat → Bool} {i v : Nat} {be : Nat → Int32} (h : rn_A R f b i be) (V : rn_V R f b i v) (hi : i ≤ 10) : rn_A R f b (i + 1) (upd be i (nI v)) := by
  have hv := rn_Vb V
  intro q hq
  by_cases e : q = i
  · have e2 : rl_f (upd be i (nI v)) q = v := by
      unfold rl_f
      rw [e, pk_us, nI_clamp (by omega)]
    rw [e2, e, pk_us]
    exact ⟨rfl, V⟩
  · have e2 : rl_f (upd be i (nI v)) q = rl_f be q := by
      unfold rl_f
      rw [pk_un e]
    rw [e2, pk_un e]
    exact h q (by omega)
theorem rl_uu (f : Nat → Int32) (k : Nat) (x y : Int32) : upd (upd f k x) k y = upd f k y := by
  funext j
  unfold upd
  by_cases e : j = k
  · rw [if_pos e, if_pos e]
  · rw [if_neg e, if_neg e, if_neg e]
theorem yw_118 {post : Int32 → SY → Prop} {J5 : Int32 → Int32 → (Nat → Int32) → (Nat → Int32) → (Nat → Int32) → (Nat → Int32) → (Nat → Int32) → Prop} {J46 : Int32 → (Nat → Int32) → (Nat → Int32) → (Nat → Int32) → (Nat → Int32) → (Nat → Int32) → Prop} {x1 x2 x3 x4 s : Int32} {a be sh we wy : Nat → Int32} {j : Nat} (h : J46 (nI (j + 1)) a be sh we wy) : wY_run_118 post J5 J46 x1 x2 x3 x4 (nI j) s a be sh we wy :=
  br_t rfl (nm_r (nI_1 j) h)
theorem yw_114 {post : Int32 → SY → Prop} {J5 : Int32 → Int32 → (Nat → Int32) → (Nat → Int32) → (Nat → Int32) → (Nat → Int32) → (Nat → Int32) → Prop} {J46 : Int32 → (Nat → Int32) → (Nat → Int32) → (Nat → Int32) → (Nat → Int32) → (Nat → Int32) → Prop} {x1 x2 x3 s : Int32} {a be sh we wy : Nat → Int32} {i j v w : Nat} (hi : i < 10) (hj : j < i) (hb : be j = nI w) (hw : w ≤ 10) (hv : v ≤ 11) (h1 : w + 1 ≤ v → J46 (nI (j + 1)) a (upd be i (nI v)) sh we wy) (h2 : v < w + 1 → J46 (nI (j + 1)) a (upd be i (nI (w + 1))) sh we wy) : wY_run_114 post J5 J46 x1 x2 x3 (nI i) (nI j) s a (upd be i (nI v)) sh we wy := by
  have e1 : upd be i (nI v) (nI j).toNatClampNeg + 1 = nI (w + 1) := by rw [nI_clamp (by omega), pk_un (by omega), hb, nI_1]
  have e2 : upd be i (nI v) (nI i).toNatClampNeg = nI v := by rw [nI_clamp (by omega), pk_us]
  refine br_f (by decide) ⟨vp_in_nI (by omega) (by omega), vp_in_nI (by omega) (by omega), pk_le (w + 1) v (fun h => nm_r (nI_1 j) (h1 h)) (fun h => ⟨vp_in_nI (by omega) (by omega), vp_in_nI (by omega) (by omega), nm_r (e' := upd be i (nI (w + 1))) ?_ (nm_r (nI_1 j) (h2 h))⟩) e1 e2 (by omega) (by omega)⟩
  rw [e1, nI_clamp (by omega), rl_uu]
theorem yw_rin {n p fl M i : Nat} {a be sh we wy : Nat → Int32} (ok : rl_Ok n a) (hp : p < 2 ^ 31) (hfl : fl < 2) (hi : i < n) (hM : M ≤ 10) (A : rn_A (rn_R fl) (rl_f a) p.testBit i be) {post : Int32 → SY → Prop} {J : Int32 → Int32 → (Nat → Int32) → (Nat → Int32) → (Nat → Int32) → (Nat → Int32) → (Nat → Int32) → Prop} (HJ : ∀ v, rn_V (rn_R fl) (rl_f a) p.testBit i v → J (nI (if M < v then v else M)) (nI (i + 1)) a (upd be i (nI v)) sh we wy) : ∀ d j v, j + d = i → rn_J (rn_R fl) (rl_f a) p.testBit i (rl_f be) j v → wY_run_46 post J (nI p) (nI fl) (nI M) (nI i) (nI n) (d + 1) (nI j) a (upd be i (nI v)) sh we wy := by
  have hn := ok.1
  intro d
  induction d with
  | zero =>
    intro j v hj K
    have e : j = i := hj
    rw [e] at K
    rw [e]
    have V := rn_Je K (fun q hq => (A q hq).2)
    have hv := rn_Vb V
    have h := HJ v V
    have e2 : upd be i (nI v) (nI i).toNatClampNeg = nI v := by rw [nI_clamp (by omega), pk_us]
    refine br_t (nI_le (by omega) (by omega)) ⟨vp_in_nI (by omega) (by omega), pk_le v M (fun hle => nm_r (nI_1 i) ?_) (fun hlt => ⟨vp_in_nI (by omega) (by omega), nm_r (e' := nI v) e2 (nm_r (nI_1 i) ?_)⟩) e2 rfl (by omega) (by omega)⟩
    · rw [if_neg (by omega)] at h; exact h
    · rw [if_pos hlt] at h; exact h
  | succ d ih =>
    intro j v hj K
    have hji : j < i := by omega
    have hv := rn_Jb K
    have Aj := A j hji
    have hbj := rn_Vb Aj.2
    have ej : a (nI j).toNatClampNeg = nI (rl_f a j) := by rw [nI_clamp (by omega)]; exact (rl_val ok (by omega)).1
    have ei : a (nI i).toNatClampNeg = nI (rl_f a i) := by rw [nI_clamp (by omega)]; exact (rl_val ok hi).1
    have bj := (rl_val ok (by omega : j < n)).2
    have bi := (rl_val ok hi).2
    have skip : ¬ (p.testBit i = true ∧ p.testBit j = true ∧ rn_R fl (rl_f a j) (rl_f a i)) → wY_run_46 post J (nI p) (nI fl) (nI M) (nI i) (nI n) (d + 1) (nI (j + 1)) a (upd be i (nI v)) sh we wy := fun hno => ih (j + 1) v (by omega) (rn_Jk K (fun b1 b2 r => absurd ⟨b1, b2, r⟩ hno))
    refine br_f (nI_ge (by omega) (by omega)) ?_
    by_cases ti : p.testBit i = true
    · refine yw_int hp (by omega) ti (br_f (by decide) ?_)
      by_cases tj : p.testBit j = true
      · refine yw_int hp (by omega) tj (br_f (by decide) ?_)
        have go : rn_R fl (rl_f a j) (rl_f a i) → wY_run_114 post J (wY_run_46 post J (nI p) (nI fl) (nI M) (nI i) (nI n) (d + 1)) (nI p) (nI fl) (nI M) (nI i) (nI j) (nI n) a (upd be i (nI v)) sh we wy := by
          intro r
          refine yw_114 (by omega) hji Aj.1 (by omega) (by omega) ?_ ?_
          · intro hle
            exact ih (j + 1) v (by omega) (rn_Jk K (fun _ _ _ => hle))
          · intro hlt
            exact ih (j + 1) _ (by omega) (rn_Jt (rn_Rt fl) K hji Aj.2 ti tj r hlt)
        have cs : fl = 0 ∨ fl = 1 := by omega
        rcases cs with rfl | rfl
        · refine br_t rfl ⟨vp_in_nI (by omega) (by omega), vp_in_nI (by omega) (by omega), pk_le (rl_f a i) (rl_f a j) (fun h => yw_118 (skip ?_)) (fun h => go ?_) ei ej (by omega) (by omega)⟩
          · rw [rn_R0]; omega
          · rw [rn_R0]; exact h
        · refine br_f (by decide) ⟨vp_in_nI (by omega) (by omega), vp_in_nI (by omega) (by omega), pk_le (rl_f a j) (rl_f a i) (fun h => yw_118 (skip ?_)) (fun h => go ?_) ej ei (by omega) (by omega)⟩
          · rw [rn_R1]; omega
          · rw [rn_R1]; exact h
      · exact yw_inf hp (by omega) tj (br_t rfl (yw_118 (skip (fun h => tj h.2.1))))
    · exact yw_inf hp (by omega) ti (br_t rfl (yw_118 (skip (fun h => ti h.1))))
theorem yw_run {n p fl : Nat} {a be sh we wy : Nat → Int32} (ok : rl_Ok n a) (hp : p < 2 ^ 31) (hfl : fl < 2) {post : Int32 → SY → Prop} (H : ∀ M be', rn_M (rn_R fl) (rl_f a) p.testBit n M → post (nI M) (nI n, a, be', sh, we, wy)) : wpY_run post (nI n, a, be, sh, we, wy) (nI p) (nI fl) := by
  have hn := ok.1
  have L : ∀ d i M be, i + d = n → rn_A (rn_R fl) (rl_f a) p.testBit i be → rn_M (rn_R fl) (rl_f a) p.testBit i M → wY_run_5 post (nI p) (nI fl) (nI n) (d + 1) (nI M) (nI i) a be sh we wy := by
    intro d
    induction d with
    | zero =>
      intro i M be hi A K
      have e : i = n := hi
      rw [e] at K
      rw [e]
      exact br_t (nI_le (by omega) (by omega)) (H M be K)
    | succ d ih =>
      intro i M be hi A K
      have hM := rn_Mb K
      refine br_f (nI_ge (by omega) (by omega)) (br_f (nI_ge (b := 10) (by omega) (by omega)) ?_)
      have J0 := rn_J0 (R := rn_R fl) (f := rl_f a) (b := p.testBit) (i := i) (be := rl_f be)
      have HJ : ∀ v, rn_V (rn_R fl) (rl_f a) p.testBit i v → wY_run_5 post (nI p) (nI fl) (nI n) (d + 1) (nI (if M < v then v else M)) (nI (i + 1)) a (upd be i (nI v)) sh we wy := fun v V => ih (i + 1) _ _ (by omega) (rn_As A V (by omega)) (rn_Ms K V)
      by_cases ti : p.testBit i = true
      · rw [if_pos ti] at J0
        refine yw_int hp (by omega) ti (br_f (by decide) ⟨vp_in_nI (by omega) (by omega), nm_r (e' := upd be i (nI 1)) (by rw [nI_clamp (by omega)]; rfl) ⟨i + 1, ?_⟩⟩)
        exact yw_rin ok hp hfl (by omega) (by omega) A HJ i 0 1 (by omega) J0
      · rw [if_neg ti] at J0
        refine yw_inf hp (by omega) ti (br_t rfl ⟨vp_in_nI (by omega) (by omega), nm_r (e' := upd be i (nI 0)) (by rw [nI_clamp (by omega)]; rfl) ⟨i + 1, ?_⟩⟩)
        exact yw_rin ok hp hfl (by omega) (by omega) A HJ i 0 0 (by omega) J0
  exact ⟨n + 1, L n 0 0 be (by omega) (fun q hq => absurd hq (by omega)) rn_M0⟩
theorem gt_Jb {R : Nat → Nat → Prop} {k : Nat} {f : Nat → Nat} {wi : Nat → Bool} {n p M : Nat} (h : gt_J R k f wi n p M) : M ≤ n := by
  rcases h.2 with z | ⟨q, _, e⟩
  · omega
  · rw [← e]; exact sl_lenle _ _ _
theorem yw_gr {n w k fl : Nat} {a be sh we wy : Nat → Int32} (ok : rl_Ok n a) (hw : w < 2 ^ 31) (hk : k < 2 ^ 31) (hfl : fl < 2) {post : Int32 → SY → Prop} (H : ∀ M be', gr_M (rn_R fl) k (sl_l (rl_f a) w.testBit n) M → post (nI M) (nI n, a, be', sh, we, wy)) : wpY_greatest post (nI n, a, be, sh, we, wy) (nI w) (nI k) (nI fl) := by
  have hn := ok.1
  have h2n := yb_p10 hn
  have e1 : (1 : Int32) <<< (nI n &&& 31) = nI (2 ^ n) := yb_one (by omega)
  have L : ∀ d p M be, p + d = 2 ^ n → gt_J (rn_R fl) k (rl_f a) w.testBit n p M → wY_greatest_6 post (nI w) (nI k) (nI fl) (d + 1) (nI M) (nI p) (nI n) a be sh we wy := by
    intro d
    induction d with
    | zero =>
      intro p M be hp K
      have e : p = 2 ^ n := hp
      rw [e] at K
      rw [e]
      refine br_t ?_ (H M be (gt_Je K))
      rw [e1]
      exact nI_le (by omega) (by omega)
    | succ d ih =>
      intro p M be hp K
      have hM := gt_Jb K
      have hp2 : p < 2 ^ n := by omega
      have ez := yb_size (f := rl_f a) hn hp2
      have hz := sl_lenle (rl_f a) p.testBit n
      refine br_f ?_ ?_
      · rw [e1]; exact nI_ge (by omega) (by omega)
      · by_cases sub : p &&& w = p
        · refine br_t (by rw [nx_and, sub]) ?_
          refine yw_size (by omega) ?_
          rw [ez]
          refine pk_le (sl_l (rl_f a) p.testBit n).length M (fun h => nm_r (nI_1 p) (ih (p + 1) M be (by omega) (gt_Jf K (fun _ => h)))) (fun h => ?_)
          refine yw_run ok (by omega) hfl (fun N be' hN => ?_)
          have hNb := rn_Mb hN
          refine pk_lt k N (fun h2 => nm_r (nI_1 p) (ih (p + 1) M be' (by omega) (gt_Jf K (fun o => absurd ((rn_le hN).mpr o.2) (by omega))))) (fun h2 => ?_)
          refine yw_size (by omega) ?_
          rw [ez]
          exact nm_r (nI_1 p) (ih (p + 1) _ be' (by omega) (gt_Jt K ⟨(yb_sub hp2).mp sub, (rn_le hN).mp h2⟩ h))
        · refine br_f ?_ (nm_r (nI_1 p) (ih (p + 1) M be (by omega) (gt_Jf K (fun o => absurd ((yb_sub hp2).mpr o.1) sub))))
          have := Nat.and_le_left (n := p) (m := w)
          rw [nx_and, nI_eq (by omega) (by omega)]
          exact sub
  exact ⟨2 ^ n + 1, L (2 ^ n) 0 0 be (by omega) gt_J0⟩
end
