/-! folds are put on, shut, opened, taken off -/
section ZFo
variable {d : Nat} {S : zS} {I J J1 J2 K K0 K1 R R' : zI} {T : Int × Nat} {X M n v l f c k x y z r i p w t m e b g len N o : Int} {P Q s : Int → Int}
/-- folds and caret of the page are others, lines stay as they are -/
theorem zR4_page (h : zR4 S I R X M) (hf : R X 6 = f) (kI : ∀ q, q < M → (q < f ∨ f + 8 ≤ q) → K q = I q) (kM : ∀ q, M ≤ q → q ≠ M + 1 → K q = I q) (kP : K (M + 1) = P) (hr : zv_rep K f P) (hw : zw_page P) (e : ∀ j, 0 ≤ j → j < 493 → P j = I (M + 1) j) : zR4 S K R X M := by
  obtain ⟨hc, hm, hap, hall⟩ := id h
  have fa6 := zcl_fa6 hc hf
  have lo := zs_fa_lo fa6
  obtain ⟨h1, h2, h3, h4, h5, h6, h7, h8⟩ := hall
  have w1 := hw.1
  have w2 := hw.2.1
  have r0 : ∀ j, zr_row K M 0 j = zr_row I M 0 j := fun j => by rw [zr_row0, zr_row0, kM M (by omega) (by omega)]
  have rq : ∀ q, 2 ≤ q → zr_row K M q = zr_row I M q := fun q q1 => kM (M + q) (by omega) (by omega)
  refine ⟨hc, hm, hap, ⟨?_, ?_⟩, ?_, fun l l1 l2 => ?_, ?_, ?_, ?_, ?_, ?_⟩
  · rw [hf, zr_row_q, kP]; exact hr
  · rw [zr_row_q, kP]; exact hw
  · exact zc_set_A (zc_set_I h2 (kI _ (by omega) (by omega))) (r0 6) (r0 7) (r0 8) (r0 9)
  · rw [zr_row_q, kP] at l2
    have l2' : l < zr_row I M 1 0 := by rw [zr_row_q, ← e 0 (by omega) (by omega)]; exact l2
    have a := h3 l l1 l2'
    rw [zr_row_q, kP, r0 6, r0 7, r0 8, r0 9]
    rw [zr_row_q] at a
    have bn := w2 l l1 l2
    exact zl_laid_congr (P := I (M + 1)) (zl_laid_mem a (by omega) (fun q q1 q2 => kI q (by omega) (by omega))) (by omega) (e _ (by omega) (by omega)) (fun i i1 i2 => by
      rw [← e (1 + l) (by omega) (by omega)] at i2
      exact e _ (by omega) (by omega))
  · refine zc_num_A ?_ (r0 10) (r0 13)
    unfold zc_num at *
    rw [kI X (by omega) (by omega)]
    exact h4
  · exact zc_tap_A (zc_tap_I h5 (by rw [kI (X + 1) (by omega) (by omega)]) (kI (X + 2) (by omega) (by omega))) (r0 12) (rq 5 (by omega))
  · refine zc_his_A (zc_his_I h6 (kI _ (by omega) (by omega)) (fun k k1 k2 q q1 q2 => ?_)) (r0 4) (r0 5) (rq 3 (by omega)) (rq 4 (by omega))
    have fk := zcl_fas hc ⟨k1, k2⟩
    have lok := zs_fa_lo fk
    have ne := (hc.2.2.2.2.2.2.2.2.2.2.2.1 k k1 k2).1
    rw [hf] at ne
    have ap := zs_fa_ne fk fa6 ne
    exact kI q (by omega) (by omega)
  · exact zc_img_A (zc_img_I h7 (fun q q1 q2 => kI q (by omega) (by omega))) (rq 12 (by omega)) (rq 13 (by omega))
  · exact zc_shs_A (zc_shs_I h8 (fun q q1 q2 => kI q (by omega) (by omega))) (rq 14 (by omega)) (rq 15 (by omega)) (rq 16 (by omega))
theorem zy_isFold (hm : zs_mo S R M) (hN : I (M + 1) 493 = N) (hN2 : 0 ≤ N ∧ N ≤ 8) : zG (d + 2) 227 [.inr (.inr M), .inl k] (S, I, R, T) = some (zq (0 ≤ k ∧ k < N), (S, I, R, T)) := by
  rw [zm_227]
  by_cases g : 0 ≤ k ∧ k ≤ N - 1
  · ((try simp only [zbd_conv]); simp (disch := first | assumption | omega | trivial) only [↓reduceIte, zbd_some, eq_self, Int.reduceEq, Int.reduceLT, Int.reduceLE, and_self, or_true, true_or, or_false, false_or, if_pos, if_neg, if_true, if_false, true_and, and_true, not_true_eq_false, not_false_eq_true, false_and, and_false, Option.bind_some, zq_t, zq_f, zq0, zq1, zw_id, zmo_1 hm, zmo_r0 hm, zmo_s1 hm, hN, zy_in])
  · ((try simp only [zbd_conv]); simp (disch := first | assumption | omega | trivial) only [↓reduceIte, zbd_some, eq_self, Int.reduceEq, Int.reduceLT, Int.reduceLE, and_self, or_true, true_or, or_false, false_or, if_pos, if_neg, if_true, if_false, true_and, and_true, not_true_eq_false, not_false_eq_true, false_and, and_false, Option.bind_some, zq_t, zq_f, zq0, zq1, zw_id, zmo_1 hm, zmo_r0 hm, zmo_s1 hm, hN, zy_in])
theorem zz_wrap (h : zR4 S I R X M) : zz_ok (d + 11) S I R T X M 128 226 [.inl x, .inl y] := by
  obtain ⟨hc, hm, hap, hall⟩ := id h
  have oo : zo_ly I I M := zo_ly_refl
  have M0 := hm.1.1
  obtain ⟨⟨hrep, hwf⟩, -⟩ := zR4_facts h
  obtain ⟨f, hf⟩ : ∃ f, R X 6 = f := ⟨_, rfl⟩
  rw [hf] at hrep
  have hF := zcl_fr hc hf
  have lo := zs_fa_lo (zcl_fa6 hc hf)
  have w0 := hwf.1
  have wN := hwf.2.2.1
  have c8 : I (f + 4) 0 ≤ 8 := by rw [hrep.2.2.2.1]; exact wN.2
  by_cases gx : 0 ≤ x ∧ x < I (M + 1) 0
  · by_cases gy : 0 ≤ y ∧ y < I (M + 1) 0
    · by_cases gxy : x < y
      · have ca := fun d => zx_clash (d := d) (I := I) (T := T) (b := x) (c := y) (zfr_fo hF) c8
        have ma := fun d => zy_against (d := d) (R := R) (T := T) (p := M + 1) (I := I) (S := S) ⟨by omega, zmo_s1 hm⟩ wN.2 (fun k k1 k2 => (hwf.2.2.2.1 k k1 k2).1.2.1) gxy
        by_cases ga : zt_ag (I (M + 1)) x y
        · have gc := (zt_ag_iff hrep).mpr ga
          refine zz_read (v := -2) h ?_ ?_ oo
          · rw [zm_128]
            ((try simp only [zbd_conv]); simp (disch := first | assumption | omega | trivial) only [↓reduceIte, zbd_some, eq_self, Int.reduceEq, Int.reduceLT, Int.reduceLE, and_self, or_true, true_or, or_false, false_or, if_pos, if_neg, if_true, if_false, true_and, and_true, not_true_eq_false, not_false_eq_true, false_and, and_false, Option.bind_some, zq_t, zq_f, zq0, zq1, zw_id, zcl_x1 hc, hf, zfr_k hF, zfr_r0 hF, zfr_r1 hF, zfr_lk hF, zfr_fk hF, zcl_c3 hc, (zcl_sc hc).2.1, zzc_has hF hrep, ca, gc])
          · rw [zm_226]
            ((try simp only [zbd_conv]); simp (disch := first | assumption | omega | trivial) only [↓reduceIte, zbd_some, eq_self, Int.reduceEq, Int.reduceLT, Int.reduceLE, and_self, or_true, true_or, or_false, false_or, if_pos, if_neg, if_true, if_false, true_and, and_true, not_true_eq_false, not_false_eq_true, false_and, and_false, Option.bind_some, zq_t, zq_f, zq0, zq1, zw_id, zmo_1 hm, zmo_r0 hm, zmo_s1 hm, zzm_isLine hm hwf oo, ma, ga])
        · have gc : ¬ zf_clash I (f + 4) x y := fun q => ga ((zt_ag_iff hrep).mp q)
          by_cases g8 : I (M + 1) 493 < 8
          · obtain ⟨N, hN⟩ : ∃ N, I (M + 1) 493 = N := ⟨_, rfl⟩
            have cN : I (f + 4) 0 = N := by rw [hrep.2.2.2.1, hN]
            obtain ⟨k, k1, k2⟩ := zx_add (d := d + 7) (I := I) (T := T) (x := x) (y := y) (zfr_fo hF) cN (by omega)
            rw [show f + 4 + 1 = f + 5 by omega, show f + 4 + 2 = f + 6 by omega, ← hN] at k1
            obtain ⟨k3, k4⟩ := zv_fins (v := 0) hwf hrep k1 g8
            rw [hN] at k4
            have wp := zw_fins (v := 0) hwf (by omega) (by omega) g8 ga
            have pb := (zt_pos_b (P := I (M + 1)) (x := x) (y := y) wN.1).1
            rw [hN] at wp pb
            obtain ⟨J, hJ⟩ : ∃ J, J = zp_fins I (f + 4) N k x y 0 := ⟨_, rfl⟩
            rw [← hJ] at k2 k4
            have jq : ∀ q, (q < f + 4 ∨ f + 8 ≤ q) → J q = I q := fun q q1 => by
              rw [hJ]
              funext j
              unfold zp_fins
              (repeat' split) <;> first | rfl | (exfalso; omega)
            have ma' := fun d => zy_against (d := d) (R := R) (T := T) (p := M + 1) (I := J) (S := S) ⟨by omega, zmo_s1 hm⟩ (by rw [jq _ (by omega)]; exact wN.2) (fun k k1 k2 => by rw [jq _ (by omega)] at k2 ⊢; exact (hwf.2.2.2.1 k k1 k2).1.2.1) gxy
            have cm := fun d => zy_comes (d := d) (R := R) (T := T) (p := M + 1) (I := J) (S := S) (x := x) (y := y) (v := 0) ⟨by omega, zmo_s1 hm⟩ (by rw [jq _ (by omega)]; omega)
            simp only [jq (M + 1) (by omega), hN] at cm ma'
            have jN : J (M + 1) 493 = N := by rw [jq _ (by omega), hN]
            have j0 : zz_ok (d + 11) S I R T X M 128 226 [.inl x, .inl y] := by
              refine ⟨k, J, R, zt_row J (M + 1) (zt_fins (I (M + 1)) N (zt_pos (I (M + 1)) x y) x y 0), ?_, ?_, ?_⟩
              · rw [zm_128]
                ((try simp only [zbd_conv]); simp (disch := first | assumption | omega | trivial) only [↓reduceIte, zbd_some, eq_self, Int.reduceEq, Int.reduceLT, Int.reduceLE, and_self, or_true, true_or, or_false, false_or, if_pos, if_neg, if_true, if_false, true_and, and_true, not_true_eq_false, not_false_eq_true, false_and, and_false, Option.bind_some, zq_t, zq_f, zq0, zq1, zw_id, zcl_x1 hc, hf, zfr_k hF, zfr_r0 hF, zfr_r1 hF, zfr_lk hF, zfr_fk hF, zcl_c3 hc, (zcl_sc hc).2.1, zzc_has hF hrep, ca, gc, cN, k2])
              · have il : ∀ z d, zG (d + 2) 190 [.inr (.inr M), .inl z] (S, J, R, T) = some (zq (0 ≤ z ∧ z < I (M + 1) 0), (S, J, R, T)) := fun z d => by
                  have jM := jq (M + 1) (by omega)
                  have := zzm_isLine (d := d) (T := T) (I := J) (K := J) (l := z) hm (by rw [jM]; exact hwf) zo_ly_refl
                  rw [jM] at this
                  exact this
                rw [zm_226]
                ((try simp only [zbd_conv]); simp (disch := first | assumption | omega | trivial) only [↓reduceIte, zbd_some, eq_self, Int.reduceEq, Int.reduceLT, Int.reduceLE, and_self, or_true, true_or, or_false, false_or, if_pos, if_neg, if_true, if_false, true_and, and_true, not_true_eq_false, not_false_eq_true, false_and, and_false, Option.bind_some, zq_t, zq_f, zq0, zq1, zw_id, zmo_1 hm, zmo_r0 hm, zmo_s1 hm, il, ma', ga, jN, cm, k3])
              · refine zR4_page h hf (fun q q1 q2 => by rw [zt_row_off (by omega)]; exact jq q (by omega)) (fun q q1 q2 => by rw [zt_row_off q2]; exact jq q (by omega)) zt_row_eq (zv_rep_congr k4 (fun q q1 q2 => zt_row_off (by omega))) wp (fun j j1 j2 => zt_fins_lo (by omega) (by omega))
            exact j0
          · refine zz_read (v := -3) h ?_ ?_ oo
            · rw [zm_128]
              ((try simp only [zbd_conv]); simp (disch := first | assumption | omega | trivial) only [↓reduceIte, zbd_some, eq_self, Int.reduceEq, Int.reduceLT, Int.reduceLE, and_self, or_true, true_or, or_false, false_or, if_pos, if_neg, if_true, if_false, true_and, and_true, not_true_eq_false, not_false_eq_true, false_and, and_false, Option.bind_some, zq_t, zq_f, zq0, zq1, zw_id, zcl_x1 hc, hf, zfr_k hF, zfr_r0 hF, zfr_r1 hF, zfr_lk hF, zfr_fk hF, zcl_c3 hc, (zcl_sc hc).2.1, zzc_has hF hrep, ca, gc, hrep.2.2.2.1])
            · have : I (M + 1) 493 = 8 := by omega
              rw [zm_226]
              ((try simp only [zbd_conv]); simp (disch := first | assumption | omega | trivial) only [↓reduceIte, zbd_some, eq_self, Int.reduceEq, Int.reduceLT, Int.reduceLE, and_self, or_true, true_or, or_false, false_or, if_pos, if_neg, if_true, if_false, true_and, and_true, not_true_eq_false, not_false_eq_true, false_and, and_false, Option.bind_some, zq_t, zq_f, zq0, zq1, zw_id, zmo_1 hm, zmo_r0 hm, zmo_s1 hm, zzm_isLine hm hwf oo, ma, ga, this])
      · refine zz_read (v := -1) h ?_ ?_ oo
        · rw [zm_128]
          ((try simp only [zbd_conv]); simp (disch := first | assumption | omega | trivial) only [↓reduceIte, zbd_some, eq_self, Int.reduceEq, Int.reduceLT, Int.reduceLE, and_self, or_true, true_or, or_false, false_or, if_pos, if_neg, if_true, if_false, true_and, and_true, not_true_eq_false, not_false_eq_true, false_and, and_false, Option.bind_some, zq_t, zq_f, zq0, zq1, zw_id, zcl_x1 hc, hf, zfr_k hF, zfr_r0 hF, zfr_r1 hF, zfr_lk hF, zfr_fk hF, zcl_c3 hc, (zcl_sc hc).2.1, zzc_has hF hrep])
        · rw [zm_226]
          ((try simp only [zbd_conv]); simp (disch := first | assumption | omega | trivial) only [↓reduceIte, zbd_some, eq_self, Int.reduceEq, Int.reduceLT, Int.reduceLE, and_self, or_true, true_or, or_false, false_or, if_pos, if_neg, if_true, if_false, true_and, and_true, not_true_eq_false, not_false_eq_true, false_and, and_false, Option.bind_some, zq_t, zq_f, zq0, zq1, zw_id, zmo_1 hm, zmo_r0 hm, zmo_s1 hm, zzm_isLine hm hwf oo])
    · refine zz_read (v := -1) h ?_ ?_ oo
      · rw [zm_128]
        ((try simp only [zbd_conv]); simp (disch := first | assumption | omega | trivial) only [↓reduceIte, zbd_some, eq_self, Int.reduceEq, Int.reduceLT, Int.reduceLE, and_self, or_true, true_or, or_false, false_or, if_pos, if_neg, if_true, if_false, true_and, and_true, not_true_eq_false, not_false_eq_true, false_and, and_false, Option.bind_some, zq_t, zq_f, zq0, zq1, zw_id, zcl_x1 hc, hf, zfr_k hF, zfr_r0 hF, zfr_r1 hF, zfr_lk hF, zfr_fk hF, zcl_c3 hc, (zcl_sc hc).2.1, zzc_has hF hrep])
      · rw [zm_226]
        ((try simp only [zbd_conv]); simp (disch := first | assumption | omega | trivial) only [↓reduceIte, zbd_some, eq_self, Int.reduceEq, Int.reduceLT, Int.reduceLE, and_self, or_true, true_or, or_false, false_or, if_pos, if_neg, if_true, if_false, true_and, and_true, not_true_eq_false, not_false_eq_true, false_and, and_false, Option.bind_some, zq_t, zq_f, zq0, zq1, zw_id, zmo_1 hm, zmo_r0 hm, zmo_s1 hm, zzm_isLine hm hwf oo])
  · refine zz_read (v := -1) h ?_ ?_ oo
    · rw [zm_128]
      ((try simp only [zbd_conv]); simp (disch := first | assumption | omega | trivial) only [↓reduceIte, zbd_some, eq_self, Int.reduceEq, Int.reduceLT, Int.reduceLE, and_self, or_true, true_or, or_false, false_or, if_pos, if_neg, if_true, if_false, true_and, and_true, not_true_eq_false, not_false_eq_true, false_and, and_false, Option.bind_some, zq_t, zq_f, zq0, zq1, zw_id, zcl_x1 hc, hf, zfr_k hF, zfr_r0 hF, zfr_r1 hF, zfr_lk hF, zfr_fk hF, zcl_c3 hc, (zcl_sc hc).2.1, zzc_has hF hrep])
    · rw [zm_226]
      ((try simp only [zbd_conv]); simp (disch := first | assumption | omega | trivial) only [↓reduceIte, zbd_some, eq_self, Int.reduceEq, Int.reduceLT, Int.reduceLE, and_self, or_true, true_or, or_false, false_or, if_pos, if_neg, if_true, if_false, true_and, and_true, not_true_eq_false, not_false_eq_true, false_and, and_false, Option.bind_some, zq_t, zq_f, zq0, zq1, zw_id, zmo_1 hm, zmo_r0 hm, zmo_s1 hm, zzm_isLine hm hwf oo])
end ZFo
