/-! THE TAPE: both take a byte, and give some back -/
section ZTp
variable {d : Nat} {S : zS} {I J K R : zI} {T : Int × Nat} {X M n v l f c k x y z r i p : Int}
/-- tape, images and sheets are elsewhere, all else stays -/
theorem zR4_tis (h : zR4 S I R X M) (kI : ∀ q, X ≤ q → q < X + 272 → q ≠ X + 1 → q ≠ X + 2 → K q = I q) (kM0 : ∀ j, j ≠ 12 → K M j = I M j) (kM : ∀ q, M + 1 ≤ q → q ≠ M + 5 → q < M + 12 → K q = I q) (htap : zc_tap K X (zr_row K M)) (himg : zc_img K X (zr_row K M)) (hshs : zc_shs K X (zr_row K M)) : zR4 S K R X M := by
  obtain ⟨hc, hm, hap, hall⟩ := id h
  have lo := zs_fa_lo (zcl_fa6 hc rfl)
  obtain ⟨h1, h2, h3, h4, h5, h6, h7, h8⟩ := hall
  have r0 : ∀ j, j ≠ 12 → zr_row K M 0 j = zr_row I M 0 j := fun j hj => by rw [zr_row0, zr_row0]; exact kM0 j hj
  have rq : ∀ q, 1 ≤ q → q ≠ 5 → q < 12 → zr_row K M q = zr_row I M q := fun q q1 q2 q3 => kM (M + q) (by omega) (by omega) (by omega)
  refine ⟨hc, hm, hap, ⟨?_, ?_⟩, ?_, ?_, ?_, htap, ?_, himg, hshs⟩
  · rw [rq 1 (by omega) (by omega) (by omega)]
    exact zv_rep_congr h1.1 (fun q q1 q2 => kI q (by omega) (by omega) (by omega) (by omega))
  · rw [rq 1 (by omega) (by omega) (by omega)]
    exact h1.2
  · exact zc_set_A (zc_set_I h2 (kI _ (by omega) (by omega) (by omega) (by omega))) (r0 6 (by omega)) (r0 7 (by omega)) (r0 8 (by omega)) (r0 9 (by omega))
  · exact zc_lay_A (zc_lay_I h3 (h1.2.1.2) (fun q q1 q2 => kI q (by omega) (by omega) (by omega) (by omega))) (r0 6 (by omega)) (r0 7 (by omega)) (r0 8 (by omega)) (r0 9 (by omega)) (rq 1 (by omega) (by omega) (by omega))
  · refine zc_num_A ?_ (r0 10 (by omega)) (r0 13 (by omega))
    unfold zc_num at *
    rw [kI X (by omega) (by omega) (by omega) (by omega)]
    exact h4
  · refine zc_his_A (zc_his_I h6 (kI _ (by omega) (by omega) (by omega) (by omega)) (fun k k1 k2 q q1 q2 => ?_)) (r0 4 (by omega)) (r0 5 (by omega)) (rq 3 (by omega) (by omega) (by omega)) (rq 4 (by omega) (by omega) (by omega))
    have lok := zs_fa_lo (zcl_fas hc ⟨k1, k2⟩)
    exact kI q (by omega) (by omega) (by omega) (by omega)
theorem zR4_tap (h : zR4 S I R X M) (kI : ∀ q, X ≤ q → q < X + 300 → q ≠ X + 1 → q ≠ X + 2 → K q = I q) (kM0 : ∀ j, j ≠ 12 → K M j = I M j) (kM : ∀ q, M + 1 ≤ q → q ≠ M + 5 → q < M + 17 → K q = I q) (htap : zc_tap K X (zr_row K M)) : zR4 S K R X M := by
  obtain ⟨hc, hm, hap, hall⟩ := id h
  have rq : ∀ q, 1 ≤ q → q ≠ 5 → q < 17 → zr_row K M q = zr_row I M q := fun q q1 q2 q3 => kM (M + q) (by omega) (by omega) (by omega)
  exact zR4_tis h (fun q q1 q2 => kI q q1 (by omega)) kM0 (fun q q1 q2 q3 => kM q q1 q2 (by omega)) htap (zc_img_A (zc_img_I hall.2.2.2.2.2.2.1 (fun q q1 q2 => kI q (by omega) (by omega) (by omega) (by omega))) (rq 12 (by omega) (by omega) (by omega)) (rq 13 (by omega) (by omega) (by omega))) (zc_shs_A (zc_shs_I hall.2.2.2.2.2.2.2 (fun q q1 q2 => kI q (by omega) (by omega) (by omega) (by omega))) (rq 14 (by omega) (by omega) (by omega)) (rq 15 (by omega) (by omega) (by omega)) (rq 16 (by omega) (by omega) (by omega)))
theorem zz_feed (h : zR4 S I R X M) : zz_ok (d + 11) S I R T X M 106 167 [.inl c] := by
  obtain ⟨hc, hm, hap, hall⟩ := id h
  obtain ⟨-, -, -, -, -, -, -, ht, hn2, htj⟩ := zR4_facts h
  obtain ⟨n, hn⟩ : ∃ n, I M 12 = n := ⟨_, rfl⟩
  rw [hn] at ht hn2 htj
  have oo : zo_ly I I M := zo_ly_refl
  have hta := zcl_ta hc
  have t2 := hta.2.1
  by_cases g : 0 ≤ c ∧ c ≤ 127
  · have ta := fun d => zx_Tappend (d := d) (c := c) (I := I) (T := T) hta (by rw [ht]; exact hn2)
    by_cases g2 : n < 400
    · simp only [ht, if_pos g2] at ta
      obtain ⟨J, hJ⟩ : ∃ J, J = zi_up (zi_up I (X + 1 + 1) n c) (X + 1) 2 (n + 1) := ⟨_, rfl⟩
      rw [← hJ] at ta
      have j1 : J (X + 1) 2 = n + 1 := by rw [hJ]; exact zu_eq ⟨rfl, rfl⟩
      have j2 : J M = I M := by rw [hJ, zu_off (by omega), zu_off (by omega)]
      have j3 : J M 12 = n := by rw [j2]; exact hn
      refine ⟨n + 1, J, R, zi_up (zi_up J (M + 5) n c) M 12 (n + 1), ?_, ?_, ?_⟩
      · rw [zm_106]
        ((try simp only [zbd_conv]); simp (disch := first | assumption | omega | trivial) only [↓reduceIte, zbd_some, eq_self, Int.reduceEq, Int.reduceLT, Int.reduceLE, and_self, or_true, true_or, or_false, false_or, if_pos, if_neg, if_true, if_false, true_and, and_true, not_true_eq_false, not_false_eq_true, false_and, and_false, Option.bind_some, zq_t, zq_f, zq0, zq1, zw_id, zcl_x1 hc, zcl_c0 hc, t2, ta, j1])
      · rw [zm_167]
        ((try simp only [zbd_conv]); simp (disch := first | assumption | omega | trivial) only [↓reduceIte, zbd_some, eq_self, Int.reduceEq, Int.reduceLT, Int.reduceLE, and_self, or_true, true_or, or_false, false_or, if_pos, if_neg, if_true, if_false, true_and, and_true, not_true_eq_false, not_false_eq_true, false_and, and_false, Option.bind_some, zq_t, zq_f, zq0, zq1, zw_id, zmo_1 hm, zy_in, j3, zmo_r11 hm, zmo_s5 hm, zwr, zu_ne, zu_eq])
      · refine zR4_tap h (fun q q1 q2 q3 q4 => ?_) (fun j hj => ?_) (fun q q1 q2 q3 => ?_) ?_
        · rw [zu_off (by omega), zu_off (by omega), hJ, zu_off (by omega), zu_off (by omega)]
        · rw [zu_ne (by omega), zu_off (by omega), j2]
        · rw [zu_off (by omega), zu_off (by omega), hJ, zu_off (by omega), zu_off (by omega)]
        · unfold zc_tap
          rw [zr_row0, zr_row_q]
          refine ⟨?_, ?_, fun j q1 q2 => ?_⟩
          · rw [zu_off (by omega), zu_off (by omega), j1, zu_eq ⟨rfl, rfl⟩]
          · rw [zu_eq ⟨rfl, rfl⟩]; omega
          · rw [zu_eq ⟨rfl, rfl⟩] at q2
            rw [zu_off (by omega), zu_off (by omega), zu_off (by omega), hJ, zu_off (by omega)]
            by_cases gj : j = n
            · rw [zu_eq ⟨by omega, gj⟩, zu_eq ⟨rfl, gj⟩]
            · rw [zu_ne (by omega), zu_ne (by omega), zu_off (by omega), zu_off (by omega)]
              exact htj j q1 (by omega)
    · simp only [ht, if_neg g2] at ta
      refine zz_read (v := -3) h ?_ ?_ oo
      · rw [zm_106]
        ((try simp only [zbd_conv]); simp (disch := first | assumption | omega | trivial) only [↓reduceIte, zbd_some, eq_self, Int.reduceEq, Int.reduceLT, Int.reduceLE, and_self, or_true, true_or, or_false, false_or, if_pos, if_neg, if_true, if_false, true_and, and_true, not_true_eq_false, not_false_eq_true, false_and, and_false, Option.bind_some, zq_t, zq_f, zq0, zq1, zw_id, zcl_x1 hc, zcl_c0 hc, t2, ta])
      · rw [zm_167]
        ((try simp only [zbd_conv]); simp (disch := first | assumption | omega | trivial) only [↓reduceIte, zbd_some, eq_self, Int.reduceEq, Int.reduceLT, Int.reduceLE, and_self, or_true, true_or, or_false, false_or, if_pos, if_neg, if_true, if_false, true_and, and_true, not_true_eq_false, not_false_eq_true, false_and, and_false, Option.bind_some, zq_t, zq_f, zq0, zq1, zw_id, zmo_1 hm, zy_in, hn])
  · refine zz_read (v := -1) h ?_ ?_ oo
    · rw [zm_106]
      by_cases g1 : c < 0
      · ((try simp only [zbd_conv]); simp (disch := first | assumption | omega | trivial) only [↓reduceIte, zbd_some, eq_self, Int.reduceEq, Int.reduceLT, Int.reduceLE, and_self, or_true, true_or, or_false, false_or, if_pos, if_neg, if_true, if_false, true_and, and_true, not_true_eq_false, not_false_eq_true, false_and, and_false, Option.bind_some, zq_t, zq_f, zq0, zq1, zw_id])
      · ((try simp only [zbd_conv]); simp (disch := first | assumption | omega | trivial) only [↓reduceIte, zbd_some, eq_self, Int.reduceEq, Int.reduceLT, Int.reduceLE, and_self, or_true, true_or, or_false, false_or, if_pos, if_neg, if_true, if_false, true_and, and_true, not_true_eq_false, not_false_eq_true, false_and, and_false, Option.bind_some, zq_t, zq_f, zq0, zq1, zw_id])
    · rw [zm_167]
      ((try simp only [zbd_conv]); simp (disch := first | assumption | omega | trivial) only [↓reduceIte, zbd_some, eq_self, Int.reduceEq, Int.reduceLT, Int.reduceLE, and_self, or_true, true_or, or_false, false_or, if_pos, if_neg, if_true, if_false, true_and, and_true, not_true_eq_false, not_false_eq_true, false_and, and_false, Option.bind_some, zq_t, zq_f, zq0, zq1, zw_id, zy_in])
theorem zz_end (h : zR4 S I R X M) : zz_ok (d + 11) S I R T X M 107 168 [.inl c] := by
  obtain ⟨hc, hm, hap, hall⟩ := id h
  obtain ⟨-, -, -, -, -, -, -, ht, hn2, htj⟩ := zR4_facts h
  obtain ⟨n, hn⟩ : ∃ n, I M 12 = n := ⟨_, rfl⟩
  rw [hn] at ht hn2 htj
  have oo : zo_ly I I M := zo_ly_refl
  have hta := zcl_ta hc
  have t2 := hta.2.1
  by_cases g : 0 ≤ c ∧ c ≤ n
  · refine ⟨n, zi_up I (X + 1) 2 c, R, zi_up (zi_up I (X + 1) 2 c) M 12 c, ?_, ?_, ?_⟩
    · rw [zm_107]
      ((try simp only [zbd_conv]); simp (disch := first | assumption | omega | trivial) only [↓reduceIte, zbd_some, eq_self, Int.reduceEq, Int.reduceLT, Int.reduceLE, and_self, or_true, true_or, or_false, false_or, if_pos, if_neg, if_true, if_false, true_and, and_true, not_true_eq_false, not_false_eq_true, false_and, and_false, Option.bind_some, zq_t, zq_f, zq0, zq1, zw_id, zcl_x1 hc, zcl_c0 hc, t2, ht, zwr])
    · have j3 : zi_up I (X + 1) 2 c M 12 = n := by rw [zu_off (by omega), hn]
      rw [zm_168]
      ((try simp only [zbd_conv]); simp (disch := first | assumption | omega | trivial) only [↓reduceIte, zbd_some, eq_self, Int.reduceEq, Int.reduceLT, Int.reduceLE, and_self, or_true, true_or, or_false, false_or, if_pos, if_neg, if_true, if_false, true_and, and_true, not_true_eq_false, not_false_eq_true, false_and, and_false, Option.bind_some, zq_t, zq_f, zq0, zq1, zw_id, zmo_1 hm, zy_in, j3, zwr])
    · refine zR4_tap h (fun q q1 q2 q3 q4 => ?_) (fun j hj => ?_) (fun q q1 q2 q3 => ?_) ?_
      · rw [zu_off (by omega), zu_off (by omega)]
      · rw [zu_ne (by omega), zu_off (by omega)]
      · rw [zu_off (by omega), zu_off (by omega)]
      · unfold zc_tap
        rw [zr_row0, zr_row_q]
        refine ⟨?_, ?_, fun j q1 q2 => ?_⟩
        · rw [zu_off (by omega), zu_eq ⟨rfl, rfl⟩, zu_eq ⟨rfl, rfl⟩]
        · rw [zu_eq ⟨rfl, rfl⟩]; omega
        · rw [zu_eq ⟨rfl, rfl⟩] at q2
          rw [zu_off (by omega), zu_off (by omega), zu_off (by omega), zu_off (by omega)]
          exact htj j q1 (by omega)
  · refine zz_read (v := -1) h ?_ ?_ oo
    · rw [zm_107]
      by_cases g1 : c < 0
      · ((try simp only [zbd_conv]); simp (disch := first | assumption | omega | trivial) only [↓reduceIte, zbd_some, eq_self, Int.reduceEq, Int.reduceLT, Int.reduceLE, and_self, or_true, true_or, or_false, false_or, if_pos, if_neg, if_true, if_false, true_and, and_true, not_true_eq_false, not_false_eq_true, false_and, and_false, Option.bind_some, zq_t, zq_f, zq0, zq1, zw_id, zcl_x1 hc, zcl_c0 hc, t2, ht])
      · ((try simp only [zbd_conv]); simp (disch := first | assumption | omega | trivial) only [↓reduceIte, zbd_some, eq_self, Int.reduceEq, Int.reduceLT, Int.reduceLE, and_self, or_true, true_or, or_false, false_or, if_pos, if_neg, if_true, if_false, true_and, and_true, not_true_eq_false, not_false_eq_true, false_and, and_false, Option.bind_some, zq_t, zq_f, zq0, zq1, zw_id, zcl_x1 hc, zcl_c0 hc, t2, ht])
    · rw [zm_168]
      ((try simp only [zbd_conv]); simp (disch := first | assumption | omega | trivial) only [↓reduceIte, zbd_some, eq_self, Int.reduceEq, Int.reduceLT, Int.reduceLE, and_self, or_true, true_or, or_false, false_or, if_pos, if_neg, if_true, if_false, true_and, and_true, not_true_eq_false, not_false_eq_true, false_and, and_false, Option.bind_some, zq_t, zq_f, zq0, zq1, zw_id, zmo_1 hm, zy_in, hn])
end ZTp
