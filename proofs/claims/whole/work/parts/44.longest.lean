section
def lz_A (f : Nat → Nat) (e : Nat) (lb wb : Nat → Int32) : Prop := ∀ q, q < e → ∃ lo w : Nat, lb q = nI lo ∧ wb q = nI w ∧ lr_D f q (f q) lo w
theorem xw_clb {n e L : Nat} {a t lb wb : Nat → Int32} (ok : rl_Ok n a) (he : e ≤ n) (hL : L ≤ 100) (A : lz_A (rl_f a) e lb wb) {post : SX → Prop} (H : ∀ lo w, lr_D (rl_f a) e L lo w → post (nI n, a, t, upd lb e (nI lo), upd wb e (nI w))) : wpX_countLongestBefore post (nI n, a, t, lb, wb) (nI e) (nI L) := by
  have hn := ok.1
  have LP : ∀ d l lo w, l + d = e → lr_D (rl_f a) l L lo w → wX_countLongestBefore_8 post (nI e) (nI L) (nI n) a t lb wb (d + 1) (nI lo) (nI w) (nI l) := by
    intro d
    induction d with
    | zero =>
      intro l lo w hl D
      have e1 : l = e := hl
      rw [e1] at D
      rw [e1]
      exact br_t (nI_le (by omega) (by omega)) ⟨vp_in_nI (by omega) (by omega), nm_r (e' := upd lb e (nI lo)) (by rw [nI_clamp (by omega)]) ⟨vp_in_nI (by omega) (by omega), nm_r (e' := upd wb e (nI w)) (by rw [nI_clamp (by omega)]) (H lo w D)⟩⟩
    | succ d ih =>
      intro l lo w hl D
      have v := rl_val ok (by omega : l < n)
      have ea : a (nI l).toNatClampNeg = nI (rl_f a l) := by rw [nI_clamp (by omega)]; exact v.1
      obtain ⟨p, q, ep, eq, D2⟩ := A l (by omega)
      have el : lb (nI l).toNatClampNeg + 1 = nI (p + 1) := by rw [nI_clamp (by omega), ep, nI_1]
      have ew : wb (nI l).toNatClampNeg = nI q := by rw [nI_clamp (by omega), eq]
      have b1 := lr_Dlo D
      have b2 := lr_Dlo D2
      refine br_f (nI_ge (by omega) (by omega)) ⟨vp_in_nI (by omega) (by omega), pk_le L (rl_f a l) (fun h => nm_r (nI_1 l) (ih (l + 1) lo w (by omega) (lr_Dn D (by omega)))) (fun h => ⟨vp_in_nI (by omega) (by omega), nm_r el (pk_le (p + 1) lo (fun h2 => pk_eq (p + 1) lo (fun h3 => ⟨vp_in_nI (by omega) (by omega), nm_r (e' := nI (w + q)) (by rw [ew, nI_add]) (nm_r (nI_1 l) (ih (l + 1) lo (w + q) (by omega) (lr_De D h D2 h3.symm)))⟩) (fun h3 => nm_r (nI_1 l) (ih (l + 1) lo w (by omega) (lr_Dl D h D2 (by omega))))) (fun h2 => ⟨vp_in_nI (by omega) (by omega), nm_r ew (nm_r (nI_1 l) (ih (l + 1) (p + 1) q (by omega) (lr_Dg D h D2 h2)))⟩))⟩) rfl ea (by omega) (by omega)⟩
  exact ⟨e + 1, LP e 0 0 1 (by omega) (lr_D0 _ _)⟩
theorem lz_s {f : Nat → Nat} {e lo w : Nat} {lb wb : Nat → Int32} (A : lz_A f e lb wb) (D : lr_D f e (f e) lo w) : lz_A f (e + 1) (upd lb e (nI lo)) (upd wb e (nI w)) := by
  intro q hq
  by_cases h : q = e
  · rw [h, pk_us, pk_us]; exact ⟨lo, w, rfl, rfl, D⟩
  · rw [pk_un h, pk_un h]; exact A q (by omega)
theorem xw_longest {n : Nat} {a t lb wb : Nat → Int32} (ok : rl_Ok n a) {post : Int32 → SX → Prop} (H : ∀ lo w lb' wb', lr_D (rl_f a) n 100 lo w → post (nI w) (nI n, a, t, lb', wb')) : wpX_longestRises post (nI n, a, t, lb, wb) := by
  have hn := ok.1
  have L : ∀ d i lb wb, i + d = n → lz_A (rl_f a) i lb wb → wX_longestRises_2 post (d + 1) (nI i) (nI n) a t lb wb := by
    intro d
    induction d with
    | zero =>
      intro i lb wb hi A
      have e : i = n := hi
      rw [e] at A
      rw [e]
      refine br_t (nI_le (by omega) (by omega)) ?_
      refine xw_clb (L := 100) ok (Nat.le_refl n) (by omega) A (fun lo w D => ?_)
      refine ⟨vp_in_nI (by omega) (by omega), ?_⟩
      rw [nI_clamp (by omega), pk_us]
      exact H lo w _ _ D
    | succ d ih =>
      intro i lb wb hi A
      have v := rl_val ok (by omega : i < n)
      have ea : a (nI i).toNatClampNeg = nI (rl_f a i) := by rw [nI_clamp (by omega)]; exact v.1
      refine br_f (nI_ge (by omega) (by omega)) ⟨vp_in_nI (by omega) (by omega), ?_⟩
      rw [ea]
      refine xw_clb ok (by omega) (by omega) A (fun lo w D => ?_)
      exact nm_r (nI_1 i) (ih (i + 1) _ _ (by omega) (lz_s A D))
  exact ⟨n + 1, L n 0 lb wb (by omega) (fun q hq => absurd hq (by omega))⟩
theorem yw_longest {n : Nat} {a be sh we wy : Nat → Int32} (ok : rl_Ok n a) {post : Int32 → SY → Prop} (H : ∀ lo w be', lr_D (rl_f a) n 100 lo w → post (nI w) (nI n, a, be', sh, we, wy)) : wpY_longestRises post (nI n, a, be, sh, we, wy) := by
  have hn := ok.1
  have h2n := yb_p10 hn
  have e1 : (1 : Int32) <<< (nI n &&& 31) = nI (2 ^ n) := yb_one (by omega)
  have L : ∀ d p M c be, p + d = 2 ^ n → M ≤ 10 → lr_K (rl_f a) n p M c → wY_longestRises_6 post (d + 1) (nI M) (nI c) (nI p) (nI n) a be sh we wy := by
    intro d
    induction d with
    | zero =>
      intro p M c be hp hM K
      have e : p = 2 ^ n := hp
      rw [e] at K
      rw [e]
      refine br_t ?_ (H M c be (lr_Kx K))
      rw [e1]
      exact nI_le (by omega) (by omega)
    | succ d ih =>
      intro p M c be hp hM K
      have hp2 : p < 2 ^ n := by omega
      have ez := yb_size (f := rl_f a) hn hp2
      have hz := sl_lenle (rl_f a) p.testBit n
      refine br_f ?_ ?_
      · rw [e1]; exact nI_ge (by omega) (by omega)
      · refine yw_size (by omega) ?_
        rw [ez]
        refine pk_lt (sl_l (rl_f a) p.testBit n).length M (fun h => nm_r (nI_1 p) (ih (p + 1) M c be (by omega) hM (lr_Kn K (fun _ => h)))) (fun h => ?_)
        refine yw_run (fl := 1) ok (by omega) (by omega) (fun N be' hN => ?_)
        rw [rn_R1] at hN
        have hNb := rn_Mb hN
        have key := (rn_le (k := 1) hN).trans (lr_iff (rl_inj ok) (fun i hi => (rl_val ok hi).2))
        refine pk_lt 1 N (fun h2 => nm_r (nI_1 p) (ih (p + 1) M c be' (by omega) hM (lr_Kn K (fun hr => absurd (key.mpr hr) (by omega))))) (fun h2 => ?_)
        have hr := key.mp h2
        refine pk_le (sl_l (rl_f a) p.testBit n).length M (fun h3 => nm_r (nI_1 c) (nm_r (nI_1 p) (ih (p + 1) _ (c + 1) be' (by omega) (by omega) ?_))) (fun h3 => nm_r (e' := nI 1) rfl (nm_r (nI_1 p) (ih (p + 1) _ 1 be' (by omega) (by omega) (lr_Kg K hr h3))))
        have e2 : (sl_l (rl_f a) p.testBit n).length = M := by omega
        rw [e2]
        exact lr_Ke K hr e2
  exact ⟨2 ^ n + 1, L (2 ^ n) 0 0 0 be (by omega) (by omega) (lr_K0 _ _)⟩
theorem i_vc_longestRises {k : Nat} {u : SX} {v : SY} (I : i_Rel k u v) (hk : k + 3 ≤ 1536) : wpX_longestRises (fun r u' => wpY_longestRises (fun r' v' => r' = r ∧ i_Rel (k + 3) u' v') v) u := by
  obtain ⟨n, a, t, lb, wb, be, sh, we, wy, rfl, rfl, ok⟩ := I
  refine xw_longest ok (fun lo w lb' wb' D => ?_)
  refine yw_longest ok (fun lo2 w2 be' D2 => ⟨?_, rl_mk ok⟩)
  rw [lr_Du D2 D]
end
