section
theorem wd_len {n : Nat} {a t : Nat → Int32} (ok : rl_Ok n a) (B : ta_B (mt_w a 99 n) t) : sm_s (wd_l (ta_T t)) 10 = n := by
  have h1 := B.2.2.2.2.length_eq
  rw [tv_wlen, ← mt_99 ok (Nat.le_refl n), sl_len] at h1
  have h2 : sm_s (fun i => if (fun _ => true) i = true then 1 else 0) n = n := by
    have := sm_congr (f := fun i => if (fun _ : Nat => true) i = true then 1 else 0) (g := fun _ => 1) n (fun i _ => if_pos rfl)
    rw [this, sm_one]
  rw [wd_sum, ← h1]
  exact h2
theorem wd_G {n : Nat} {a t : Nat → Int32} (B : ta_B (mt_w a 99 n) t) : ∀ k M M', k < 11 → gr_M (fun a b => b < a) (k + 1) (mt_w a 99 n) M → gr_M (fun a b => b < a) k (mt_w a 99 n) M' → M' ≤ M ∧ M - M' = wd_l (ta_T t) k := by
  intro k M M' hk h1 h2
  have e1 := gr_Mu h1 (tv_rise B.2.1 B.2.2 (k + 1))
  have e2 := gr_Mu h2 (tv_rise B.2.1 B.2.2 k)
  by_cases h : k < 10
  · rw [Nat.min_eq_left (by omega)] at e1 e2
    have e3 : tv_fc (ta_T t) (k + 1) 10 = tv_fc (ta_T t) k 10 + sm_s (fun j => tv_f (ta_T t) k j) 10 := rfl
    rw [e3] at e1
    rw [wd_li _ h]
    omega
  · have e : k = 10 := by omega
    rw [e] at e1 e2 ⊢
    rw [Nat.min_eq_right (by omega)] at e1 e2
    have e4 : wd_l (ta_T t) 10 = 0 := if_neg (by omega)
    omega
theorem i_vc_words {k : Nat} {u : SX} {v : SY} (I : i_Rel k u v) (hk : k + 3 ≤ 1536) : wpX_words (fun r u' => wpY_words (fun r' v' => r' = r ∧ i_Rel (k + 3) u' v') v) u := by
  obtain ⟨n, a, t, lb, wb, be, sh, we, wy, rfl, rfl, ok⟩ := I
  have hn := ok.1
  unfold wpX_words
  dsimp only
  refine xw_make ok (Nat.le_refl n) (fun t' B => ?_)
  have hl := wd_len ok B
  have hf := wd_fall B.2.1
  have hs : sm_s (wd_l (ta_T t')) 10 ≤ 10 := by omega
  have h10 : wd_l (ta_T t') 10 = 0 := if_neg (by omega)
  have fc := hk_facts hf hs
  have nb := hk_nb ⟨n, by omega⟩
  dsimp only at nb
  have hb : hk_p (wd_l (ta_T t')) < 2 ^ 31 := by omega
  refine xw_prod B.1 B.2.1 ?_
  refine br_f (nI_nle fc.2.2.1 hb) ?_
  refine xw_fact hn ⟨nI_ne0 fc.2.2.1 hb, ?_⟩
  rw [pk_div (by omega) fc.2.2.1 hb]
  refine yw_words (s := wd_l (ta_T t')) ok h10 hs (wd_G B) (fun be' sh' we' wy' => ⟨?_, rl_mk ok⟩)
  rw [mx_Gend hf]
  unfold hk_F
  rw [hl]
end
