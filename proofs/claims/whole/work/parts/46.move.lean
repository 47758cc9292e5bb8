/-! the caret goes -/
section ZMv
variable {d : Nat} {S : zS} {I J K R : zI} {T : Int × Nat} {X M n v l f c k x y z r i p w t m e : Int} {P rz : Int → Int}
theorem zzc_caretRow (hc : zs_cl S R X) (hf : R X 6 = f) (hrep : zv_rep I f P) (hwf : zw_page P) (hrz : zl_rows P w t m e (zr_rz I X)) (hrow : 0 ≤ I (X + 135 + 11 + 9 * P 518 + 1) (P 519) ∧ I (X + 135 + 11 + 9 * P 518 + 1) (P 519) ≤ 41) : zG (d + 6) 142 [.inr (.inr X)] (S, I, R, T) = some (zk_sm (zt_vis P (zr_rz I X)) (P 518) + I (X + 135 + 11 + 9 * P 518 + 1) (P 519), (S, I, R, T)) := by
  have hF := zcl_fr hc hf
  obtain ⟨w6, w7, w8⟩ := hwf.2.2.2.2.2
  have hn := hwf.2.1 _ w6.1 w6.2
  have c6 : I f 2 = P 518 := hrep.2.2.2.2.2.1
  have c7 : I f 3 = P 519 := hrep.2.2.2.2.2.2
  rw [zm_142]
  ((try simp only [zbd_conv]); simp (disch := first | assumption | omega | trivial) only [↓reduceIte, zbd_some, eq_self, Int.reduceEq, Int.reduceLT, Int.reduceLE, and_self, or_true, true_or, or_false, false_or, if_pos, if_neg, if_true, if_false, true_and, and_true, not_true_eq_false, not_false_eq_true, false_and, and_false, Option.bind_some, zq_t, zq_f, zq0, zq1, zw_id, zcl_x1 hc, hf, zfr_k hF, zfr_r0 hF, zfr_r1 hF, zfr_lk hF, zfr_fk hF, zcl_c3 hc, (zcl_sc hc).2.1, c6, c7, zzc_rowOf hc hF hrep hwf hrz w6 (show 0 ≤ P 519 ∧ P 519 ≤ 40 by omega) hrow])
theorem zl_pic_row {ind a : Int} {s : Int → Int} (hp : zl_pic n w t m ind s I a) (hn : 0 ≤ n ∧ n ≤ 40) (ht : 1 ≤ t ∧ t ≤ 8) (hi : 0 ≤ ind ∧ ind ≤ 20) (hx : 0 ≤ i ∧ i ≤ n) : 0 ≤ I (a + 1) i ∧ I (a + 1) i < I a 1 ∧ I a 1 ≤ 41 ∧ 0 ≤ I (a + 2) i ∧ I (a + 2) i ≤ 400 := by
  have hcol := zl_cols hp.2.2.1 hn ht hi
  have hr1 := hp.2.2.1.1
  by_cases gi : i = n
  · rw [gi]; have := hcol.2; omega
  · have := hcol.1 i hx.1 (by omega); omega
theorem zzm_caretRow (hm : zs_mo S R M) (hmo : zr_mo I M) (hwf : zw_page (I (M + 1))) (hrz : zl_rows (I (M + 1)) (I M 6) (I M 7) (I M 8) (I M 9) rz) (pic : zl_pic (I (M + 1) (1 + I (M + 1) 518)) (I M 6) (I M 7) (I M 8) (zl_ind (I (M + 1) (1 + I (M + 1) 518)) (I M 6) (I M 7) (I M 8) (I M 9) (zt_sg (I (M + 1)) (I (M + 1) 518))) (zt_sg (I (M + 1)) (I (M + 1) 518)) J x) : ∃ K, zG (d + 8) 202 [.inr (.inr M)] (S, I, R, T) = some (zk_sm (zt_vis (I (M + 1)) rz) (I (M + 1) 518) + J (x + 1) (I (M + 1) 519), (S, K, R, T)) ∧ zo_ly I K M := by
  have h0 := hwf.1
  obtain ⟨w6, w7, w8⟩ := hwf.2.2.2.2.2
  obtain ⟨l, hl⟩ : ∃ l, l = I (M + 1) 518 := ⟨_, rfl⟩
  rw [← hl] at w6 w8 pic ⊢
  have hn := hwf.2.1 l w6.1 w6.2
  obtain ⟨J1, a1, a2⟩ := zzm_firstRow (d := d) (T := T) hm hmo hwf hrz zo_ly_refl (l := l) (by omega)
  obtain ⟨K, b1, b2, b3⟩ := zzm_lays (d := d + 2) (T := T) hm hmo hwf a2 w6
  obtain ⟨u1, u2, u3, u4⟩ := zl_both hn.1 pic b3
  obtain ⟨u3a, u3b⟩ := u3 (I (M + 1) 519) w7 w8
  have hi := zz_ind (n := I (M + 1) (1 + l)) (l := l) hmo
  have hw4 := hmo.1
  have hrow := zl_pic_row pic hn hmo.2.1 (by omega) ⟨w7, w8⟩
  have sb := zt_sm_ir (l := l) hrz hwf.2.1 ⟨w6.1, by omega⟩
  have p1 := zo_P a2
  have p2 := zo_P b2
  refine ⟨K, ?_, b2⟩
  rw [zm_202]
  ((try simp only [zbd_conv]); simp (disch := first | assumption | omega | trivial) only [↓reduceIte, zbd_some, eq_self, Int.reduceEq, Int.reduceLT, Int.reduceLE, and_self, or_true, true_or, or_false, false_or, if_pos, if_neg, if_true, if_false, true_and, and_true, not_true_eq_false, not_false_eq_true, false_and, and_false, Option.bind_some, zq_t, zq_f, zq0, zq1, zw_id, zmo_1 hm, zmo_r0 hm, zmo_s1 hm, zmo_r17 hm, zmo_s7 hm, hl.symm, p1, p2, a1, b1, u3a])
/-- the caret is elsewhere, on both sides -/
theorem zR4_move (h : zR4 S I R X M) (hf : R X 6 = f) (hl : 0 ≤ l ∧ l < I (M + 1) 0) (hp : 0 ≤ p ∧ p ≤ I (M + 1) (1 + l)) (kI : ∀ q, q ≠ X → q ≠ f → q < M → K q = I q) (kX : ∀ j, j ≠ 8 → K X j = I X j) (kX8 : K X 8 = c) (kf : K f = zi_up (zi_up I f 2 l) f 3 p f) (kM : ∀ q, M + 2 ≤ q → (q < M + 7 ∨ M + 11 < q) → K q = I q) (kP : K (M + 1) = zt_up (zt_up (I (M + 1)) 518 l) 519 p) (kMj : ∀ j, j ≠ 10 → j ≠ 22 → j ≠ 23 → K M j = I M j) (kM10 : K M 10 = c) : zR4 S K R X M := by
  obtain ⟨hc, hm, hap, hall⟩ := id h
  have fa6 := zcl_fa6 hc hf
  have lo := zs_fa_lo fa6
  obtain ⟨h1, h2, h3, h4, h5, h6, h7, h8⟩ := hall
  unfold zc_now at h1
  rw [zr_row_q, hf] at h1
  obtain ⟨w1, w2, -⟩ := id h1.2
  have rc := zv_rep_caret (l := l) (p := p) h1.1 h1.2 hl hp
  have e : ∀ j, j < 518 → K (M + 1) j = I (M + 1) j := fun j hj => by rw [kP, zt_up_ne (by omega), zt_up_ne (by omega)]
  refine ⟨hc, hm, hap, ⟨?_, ?_⟩, ?_, fun l' l1 l2 => ?_, ?_, ?_, ?_, ?_, ?_⟩
  · rw [hf, zr_row_q, kP]
    refine zv_rep_congr rc.1 (fun q q1 q2 => ?_)
    by_cases g : q = f
    · rw [g, kf]
    · rw [kI q (by omega) g (by omega), zu_off g, zu_off g]
  · rw [zr_row_q, kP]; exact rc.2
  · unfold zc_set zr_mo at *
    rw [zr_row0] at h2 ⊢
    rw [kI (X + 4) (by omega) (by omega) (by omega), kMj 6 (by omega) (by omega) (by omega), kMj 7 (by omega) (by omega) (by omega), kMj 8 (by omega) (by omega) (by omega), kMj 9 (by omega) (by omega) (by omega)]
    exact h2
  · rw [zr_row_q, e 0 (by omega)] at l2
    have := h3 l' l1 (by rw [zr_row_q]; exact l2)
    rw [zr_row_q, zr_row0] at this ⊢
    rw [kMj 6 (by omega) (by omega) (by omega), kMj 7 (by omega) (by omega) (by omega), kMj 8 (by omega) (by omega) (by omega), kMj 9 (by omega) (by omega) (by omega)]
    have hn := w2 l' l1 l2
    refine zl_laid_congr (P := I (M + 1)) (zl_laid_mem this (by omega) (fun q q1 q2 => kI q (by omega) (by omega) (by omega))) (by omega) (e _ (by omega)) (fun i i1 i2 => e _ (by omega))
  · unfold zc_num at *
    rw [zr_row0] at h4 ⊢
    exact ⟨kX8.trans kM10.symm, by rw [kX 9 (by omega), kMj 13 (by omega) (by omega) (by omega)]; exact h4.2⟩
  · unfold zc_tap at *
    rw [zr_row0, zr_row_q] at h5 ⊢
    rw [kI (X + 1) (by omega) (by omega) (by omega), kI (X + 2) (by omega) (by omega) (by omega), kMj 12 (by omega) (by omega) (by omega), kM (M + 5) (by omega) (by omega)]
    exact h5
  · have h6' : zc_his K R X (zr_row I M) := zc_his_I h6 (kI _ (by omega) (by omega) (by omega)) (fun k k1 k2 q q1 q2 => by
      have fk := zcl_fas hc ⟨k1, k2⟩
      have lok := zs_fa_lo fk
      have ne := (hc.2.2.2.2.2.2.2.2.2.2.2.1 k k1 k2).1
      rw [hf] at ne
      have ap := zs_fa_ne fk fa6 ne
      exact kI q (by omega) (by omega) (by omega))
    unfold zc_his at *
    rw [zr_row0, zr_row_q, zr_row_q] at h6' ⊢
    rw [kMj 4 (by omega) (by omega) (by omega), kMj 5 (by omega) (by omega) (by omega), kM (M + 3) (by omega) (by omega), kM (M + 4) (by omega) (by omega)]
    exact h6'
  · have h7' : zc_img K X (zr_row I M) := zc_img_I h7 (fun q q1 q2 => kI q (by omega) (by omega) (by omega))
    unfold zc_img zc_im1 at *
    rw [zr_row_q, zr_row_q] at h7' ⊢
    rw [kM (M + 12) (by omega) (by omega), kM (M + 13) (by omega) (by omega)]
    exact h7'
  · have h8' : zc_shs K X (zr_row I M) := zc_shs_I h8 (fun q q1 q2 => kI q (by omega) (by omega) (by omega))
    unfold zc_shs zc_sh1 at *
    rw [zr_row_q, zr_row_q, zr_row_q] at h8' ⊢
    rw [kM (M + 14) (by omega) (by omega), kM (M + 15) (by omega) (by omega), kM (M + 16) (by omega) (by omega)]
    exact h8'
/-- the reference puts the caret at a stop, and settles -/
theorem zzm_put (h : zR4 S I R X M) (hl : 0 ≤ l ∧ l < I (M + 1) 0) (hp : 0 ≤ p ∧ p ≤ I (M + 1) (1 + l)) (hst : I (X + 135 + 11 + 9 * l + 5) p = 1) {K0 : zI} (k0 : ∀ q, M + 2 ≤ q → (q < M + 7 ∨ M + 11 < q) → K0 q = I q) (k0M : ∀ j, j ≠ 22 → j ≠ 23 → K0 M j = I M j) (k0P : K0 (M + 1) = zt_up (zt_up (I (M + 1)) 518 l) 519 p) : ∃ K, zG (d + 6) 205 [.inr (.inr M)] (S, K0, R, T) = some (0, (S, K, R, T)) ∧ (∀ q, q < M → K q = K0 q) ∧ (∀ q, M + 2 ≤ q → (q < M + 7 ∨ M + 11 < q) → K q = I q) ∧ K (M + 1) = zt_up (zt_up (I (M + 1)) 518 l) 519 p ∧ (∀ j, j ≠ 10 → j ≠ 22 → j ≠ 23 → K M j = I M j) ∧ K M 10 = I (X + 135 + 11 + 9 * l + 2) p := by
  obtain ⟨hc, hm, hap, hall⟩ := id h
  obtain ⟨⟨hrep, hwf⟩, -, hmo, -, hlay, -, -, -⟩ := zR4_facts h
  have w2 := hwf.2.1 l hl.1 hl.2
  have h0 := hwf.1
  have hmo0 : zr_mo K0 M := by
    unfold zr_mo at *
    rw [k0M 6 (by omega) (by omega), k0M 7 (by omega) (by omega), k0M 8 (by omega) (by omega), k0M 9 (by omega) (by omega)]
    exact hmo
  have rc := zv_rep_caret (l := l) (p := p) hrep hwf hl hp
  obtain ⟨K, v, e1, ⟨e2, e3⟩, e4, e5, e6, e7⟩ := zy_settles (d := d) (I := K0) (T := T) hm hmo0 (by rw [k0P]; exact rc.2)
  have q8 : zt_up (zt_up (I (M + 1)) 518 l) 519 p 518 = l := by rw [zt_up_ne (by omega), zt_up_eq rfl]
  have q9 : zt_up (zt_up (I (M + 1)) 518 l) 519 p 519 = p := zt_up_eq rfl
  have q1 : zt_up (zt_up (I (M + 1)) 518 l) 519 p (1 + l) = I (M + 1) (1 + l) := by rw [zt_up_ne (by omega), zt_up_ne (by omega)]
  have qs : zt_sg (zt_up (zt_up (I (M + 1)) 518 l) 519 p) l = zt_sg (I (M + 1)) l := by
    funext j
    unfold zt_sg
    rw [q1]
    by_cases g : 0 ≤ j ∧ j < I (M + 1) (1 + l)
    · rw [if_pos g, if_pos g, zt_up_ne (by omega), zt_up_ne (by omega)]
    · rw [if_neg g, if_neg g]
  rw [k0P, q8, q1, qs, k0M 6 (by omega) (by omega), k0M 7 (by omega) (by omega), k0M 8 (by omega) (by omega), k0M 9 (by omega) (by omega)] at e5
  rw [k0P, q8, q1, qs, q9] at e6
  have pic : zr_pic I M (X + 135 + 11 + 9 * l) l := hlay l hl.1 hl.2
  have stp := (zl_stop_both w2.1 pic e5 hp).mp hst
  have hv : v = p := by
    have := e6.1
    by_cases g : v = p
    · exact g
    · exact absurd stp (e6.2.2.2 p (Int.le_refl _) (by omega))
  rw [hv] at e4 e7
  refine ⟨K, e1, fun q q1 => e2 q (by omega) (by omega) (by omega), fun q q1 q2 => (e2 q (by omega) (by omega) (by omega)).trans (k0 q q1 q2), ?_, fun j j1 j2 j3 => (e3 j j2 j3 j1).trans (k0M j j2 j3), ?_⟩
  · rw [e4, k0P]
    funext j
    by_cases g : j = 519
    · rw [zt_up_eq g, zt_up_eq g]
    · rw [zt_up_ne g]
  · rw [e7]
    exact ((zl_both w2.1 pic e5).2.2.1 p hp.1 hp.2).2
end ZMv
