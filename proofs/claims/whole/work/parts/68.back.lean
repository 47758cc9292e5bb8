/-! an image is brought back -/
section ZBa
variable {d : Nat} {S : zS} {I J J1 J2 K K0 K1 R R' : zI} {T : Int × Nat} {X M n v l f c k x y z r i p w t m e b g len N o : Int} {P Q s : Int → Int}
theorem zz_back (h : zR4 S I R X M) : zz_ok (d + 11) S I R T X M 133 234 [.inl k] := by
  obtain ⟨hc, hm, hap, hall⟩ := id h
  have oo : zo_ly I I M := zo_ly_refl
  have X0 := hc.1.1
  obtain ⟨⟨hrep, hwf⟩, hst, hmo, hse, -, -, hnum, -⟩ := zR4_facts h
  obtain ⟨f, hf⟩ : ∃ f, R X 6 = f := ⟨_, rfl⟩
  rw [hf] at hrep
  have hF := zcl_fr hc hf
  have fa := zcl_fa6 hc hf
  have lo := zs_fa_lo fa
  have io := fun d => zx_imageOf (d := d) (I := I) (T := T) (k := k) hc
  by_cases g1 : 0 ≤ k ∧ k < 2
  · simp only [if_pos g1] at io
    obtain ⟨y, hy⟩ : ∃ y, y = X + 272 + 10 * k := ⟨_, rfl⟩
    have him := zcl_im hc g1
    rw [← hy] at io him
    obtain ⟨y0, y3, yr0, yr1, yse⟩ := him
    have yne : ¬ y = 0 := by omega
    have hG : zs_fr S R (y + 1) := zcl_fb hc (by
      rcases (show k = 0 ∨ k = 1 by omega) with q | q
      · exact Or.inr (Or.inl (by omega))
      · exact Or.inr (Or.inr (by omega)))
    have old := hall.2.2.2.2.2.2.1 k g1.1 g1.2
    unfold zc_im1 at old
    rw [zr_row_q, zr_row_q, ← hy, show X + 273 + 10 * k = y + 1 by omega, show X + 281 + 10 * k = y + 9 by omega] at old
    obtain ⟨⟨o1, o2⟩, o3⟩ := old
    rcases o2 with o2 | o2
    · rw [o2] at o1
      refine zz_read (v := -2) h ?_ ?_ oo
      · rw [zm_133]
        ((try simp only [zbd_conv]); simp (disch := first | assumption | omega | trivial) only [↓reduceIte, zbd_some, eq_self, Int.reduceEq, Int.reduceLT, Int.reduceLE, and_self, or_true, true_or, or_false, false_or, if_pos, if_neg, if_true, if_false, true_and, and_true, not_true_eq_false, not_false_eq_true, false_and, and_false, Option.bind_some, zq_t, zq_f, zq0, zq1, zw_id, zcl_x1 hc, hf, zfr_k hF, zfr_r0 hF, zfr_r1 hF, zfr_lk hF, zfr_fk hF, zcl_c3 hc, (zcl_sc hc).2.1, io, yne, y3, o1])
      · rw [zm_234]
        ((try simp only [zbd_conv]); simp (disch := first | assumption | omega | trivial) only [↓reduceIte, zbd_some, eq_self, Int.reduceEq, Int.reduceLT, Int.reduceLE, and_self, or_true, true_or, or_false, false_or, if_pos, if_neg, if_true, if_false, true_and, and_true, not_true_eq_false, not_false_eq_true, false_and, and_false, Option.bind_some, zq_t, zq_f, zq0, zq1, zw_id, zmo_1 hm, zmo_r0 hm, zmo_s1 hm, zy_in, zmo_r24 hm, zmo_s12 hm, o2])
    · rw [o2] at o1
      obtain ⟨⟨irep, iw⟩, iset, ise⟩ := o3 o2
      have y2 : ¬ I y 2 = 0 := by omega
      obtain ⟨w, hw0⟩ : ∃ w, I (M + 13) (524 * k + 520 + 0) = w := ⟨_, rfl⟩
      obtain ⟨t, ht0⟩ : ∃ t, I (M + 13) (524 * k + 520 + 1) = t := ⟨_, rfl⟩
      obtain ⟨m, hm0⟩ : ∃ m, I (M + 13) (524 * k + 520 + 2) = m := ⟨_, rfl⟩
      obtain ⟨e, he0⟩ : ∃ e, I (M + 13) (524 * k + 520 + 3) = e := ⟨_, rfl⟩
      have i0 := iset 0 (by omega) (by omega)
      have i1 := iset 1 (by omega) (by omega)
      have i2 := iset 2 (by omega) (by omega)
      have i3 := iset 3 (by omega) (by omega)
      rw [hw0] at i0
      rw [ht0] at i1
      rw [hm0] at i2
      rw [he0] at i3
      unfold zr_se at ise
      rw [i0, i1, i2, i3] at ise
      obtain ⟨P, hP⟩ : ∃ P : Int → Int, P = fun j => if 0 ≤ j ∧ j < 0 + 520 then I (M + 13) (524 * k + (j - 0)) else I (M + 1) j := ⟨_, rfl⟩
      obtain ⟨J1, a1, a2, a3⟩ := zx_FrCopy (d := d + 6) (I := I) (T := T) hF hG (by omega)
      have rep0 := zv_freq_rep a3 irep iw
      obtain ⟨rep1, wP⟩ := zv_rep_page (Q := P) rep0 iw (fun j j1 j2 => by
        rw [hP]; dsimp only
        rw [if_pos (by omega), show j - 0 = j by omega]; rfl)
      have j1 : ∀ q, (q < f ∨ f + 8 ≤ q) → J1 q = I q := fun q q1 => a2 q q1
      have cs := fun d => zx_SecopyFrom (d := d) (I := J1) (R := R) (T := T) (zcl_se hc) yse
      simp only [j1 (y + 9) (by omega), i0, i1, i2, i3] at cs
      obtain ⟨J2, hJ2⟩ : ∃ J2, J2 = zi_up (zi_up (zi_up (zi_up J1 (X + 4) 0 w) (X + 4) 1 t) (X + 4) 2 m) (X + 4) 3 e := ⟨_, rfl⟩
      simp only [← hJ2] at cs
      have fg := fun d => zx_forget (d := d) (I := J2) (T := T) (zcl_hi hc)
      obtain ⟨J3, hJ3⟩ : ∃ J3, J3 = zi_up (zi_up J2 (X + 5) 1 0) (X + 5) 2 0 := ⟨_, rfl⟩
      simp only [← hJ3] at fg
      have j3 : ∀ q, q ≠ X + 4 → q ≠ X + 5 → J3 q = J1 q := fun q q1 q2 => by
        rw [hJ3, zu_off q2, zu_off q2, hJ2, zu_off q1, zu_off q1, zu_off q1, zu_off q1]
      have j3I : ∀ q, q ≠ X + 4 → q ≠ X + 5 → (q < f ∨ f + 8 ≤ q) → J3 q = I q := fun q q1 q2 q3 => by rw [j3 q q1 q2, j1 q q3]
      have j34 : J3 (X + 4) = J2 (X + 4) := by rw [hJ3, zu_off (by omega), zu_off (by omega)]
      have s0 : J3 (X + 4) 0 = w := by rw [j34, hJ2, zu_ne (by omega), zu_ne (by omega), zu_ne (by omega), zu_eq ⟨rfl, rfl⟩]
      have s1 : J3 (X + 4) 1 = t := by rw [j34, hJ2, zu_ne (by omega), zu_ne (by omega), zu_eq ⟨rfl, rfl⟩]
      have s2 : J3 (X + 4) 2 = m := by rw [j34, hJ2, zu_ne (by omega), zu_eq ⟨rfl, rfl⟩]
      have s3 : J3 (X + 4) 3 = e := by rw [j34, hJ2, zu_eq ⟨rfl, rfl⟩]
      have h51 : J3 (X + 5) 1 = 0 := by rw [hJ3, zu_ne (by omega), zu_eq ⟨rfl, rfl⟩]
      have h52 : J3 (X + 5) 2 = 0 := by rw [hJ3, zu_eq ⟨rfl, rfl⟩]
      have rep3 : zv_rep J3 f P := zv_rep_congr rep1 (fun q q1 q2 => j3 q (by omega) (by omega))
      obtain ⟨J, l1, l2⟩ := zx_layAll (d := d + 3) (T := T) hc hf rep3 wP (by unfold zr_se; rw [s0, s1, s2, s3]; exact ise)
      rw [s0, s1, s2, s3] at l2
      obtain ⟨v, f1, f2⟩ := zc_done_rep l2
      have jq : ∀ q, X + 300 ≤ q → J q = I q := fun q q1 => by rw [zc_done_q l2 fa q1, j3I q (by omega) (by omega) (by omega)]
      -- the reference
      obtain ⟨B, hB⟩ : ∃ B, B = zi_cpy J (M + 13) (M + 1) (524 * k) 0 520 := ⟨_, rfl⟩
      have cp := zy_copies (d := d + 9) (I := J) (R := R) (T := T) (o := 524 * k) (w := 0) (zmo_s13 hm) (zmo_s1 hm) (by omega) (by omega) (by omega)
      rw [← hB] at cp
      have Bq : ∀ q, q ≠ M + 1 → B q = J q := fun q q1 => by
        rw [hB]
        funext j
        rw [zi_cpy_at2, if_neg (by omega)]
      have BP : B (M + 1) = P := by
        rw [hB, hP]
        funext j
        rw [zi_cpy_at2, jq _ (by omega), jq _ (by omega)]
        by_cases q : 0 ≤ j ∧ j < 0 + 520
        · rw [if_pos ⟨rfl, q⟩, if_pos q]
        · rw [if_neg (by omega), if_neg q]
      have b13 : B (M + 13) = I (M + 13) := by rw [Bq _ (by omega), jq _ (by omega)]
      obtain ⟨K0, hK0⟩ : ∃ K0, K0 = zi_up (zi_up (zi_up (zi_up (zi_up (zi_up B M 6 w) M 7 t) M 8 m) M 9 e) M 4 0) M 5 0 := ⟨_, rfl⟩
      have k0q : ∀ q, q ≠ M → K0 q = B q := fun q hq => by rw [hK0, zu_off hq, zu_off hq, zu_off hq, zu_off hq, zu_off hq, zu_off hq]
      have k0j : ∀ j, 10 ≤ j → K0 M j = I M j := fun j hj => by rw [hK0, zu_ne (by omega), zu_ne (by omega), zu_ne (by omega), zu_ne (by omega), zu_ne (by omega), zu_ne (by omega), Bq M (by omega), jq M hap]
      have k6 : K0 M 6 = w := by rw [hK0, zu_ne (by omega), zu_ne (by omega), zu_ne (by omega), zu_ne (by omega), zu_ne (by omega), zu_eq ⟨rfl, rfl⟩]
      have k7 : K0 M 7 = t := by rw [hK0, zu_ne (by omega), zu_ne (by omega), zu_ne (by omega), zu_ne (by omega), zu_eq ⟨rfl, rfl⟩]
      have k8 : K0 M 8 = m := by rw [hK0, zu_ne (by omega), zu_ne (by omega), zu_ne (by omega), zu_eq ⟨rfl, rfl⟩]
      have k9 : K0 M 9 = e := by rw [hK0, zu_ne (by omega), zu_ne (by omega), zu_eq ⟨rfl, rfl⟩]
      have k4 : K0 M 4 = 0 := by rw [hK0, zu_ne (by omega), zu_eq ⟨rfl, rfl⟩]
      have k5 : K0 M 5 = 0 := by rw [hK0, zu_eq ⟨rfl, rfl⟩]
      have rq : ∀ q, 2 ≤ q → zr_row K0 M q = zr_row I M q := fun q q1 => by rw [zr_row_q, zr_row_q, k0q _ (by omega), Bq _ (by omega), jq _ (by omega)]
      obtain ⟨K, z1, z2, ⟨v', z3⟩, -⟩ := zz_settled (d := d + 4) (T := T) hc hf hm hap wP (J0 := J3) (K0 := K0) l2 (fun q q1 => by rw [k0q q (by omega), Bq q (by omega)]) (by rw [k0q _ (by omega), BP]) (by unfold zr_mo; rw [k6, k7, k8, k9]; exact ise) ⟨k6, k7, k8, k9⟩ ⟨s0, s1, s2, s3⟩ (by rw [j3I X (by omega) (by omega) (by omega), k0j 13 (by omega)]; exact hnum.2)
        (zc_tap_A (zc_tap_I hall.2.2.2.2.1 (by rw [j3I (X + 1) (by omega) (by omega) (by omega)]) (j3I (X + 2) (by omega) (by omega) (by omega))) (by rw [zr_row0, zr_row0]; exact k0j 12 (by omega)) (rq 5 (by omega)))
        ⟨⟨by rw [zr_row0, k4]; exact h51, by rw [zr_row0, k5]; exact h52⟩, by rw [zr_row0, k4, k5]; omega, fun j j1 j2 => by rw [zr_row0, k4] at j2; omega, fun j j1 j2 => by rw [zr_row0, k5] at j2; omega⟩
        (zc_img_A (zc_img_I hall.2.2.2.2.2.2.1 (fun q q1 q2 => j3I q (by omega) (by omega) (by omega))) (rq 12 (by omega)) (rq 13 (by omega)))
        (zc_shs_A (zc_shs_I hall.2.2.2.2.2.2.2 (fun q q1 q2 => j3I q (by omega) (by omega) (by omega))) (rq 14 (by omega)) (rq 15 (by omega)) (rq 16 (by omega)))
      have kr : K (M + 1) 0 = P 0 := by rw [z3, zt_up_ne (by omega)]
      have cr : J (f + 1) 0 = P 0 := by rw [f1.1, zt_up_ne (by omega)]
      have lp : ∀ w', zi_run zt_234 (zG (d + 10)) (w' + 5) 43 [some (.inr (.inr M)), some (.inl k), some (.inl 0)] [] (S, B, R, T) = some (P 0, (S, K, R, T)) := fun w' => by
        rw [show w' + 5 = w' + 1 + 1 + 1 + 1 + 1 by omega, zk_234_43]
        ((try simp only [zbd_conv]); simp (disch := first | assumption | omega | trivial) only [↓reduceIte, zbd_some, eq_self, Int.reduceEq, Int.reduceLT, Int.reduceLE, and_self, or_true, true_or, or_false, false_or, if_pos, if_neg, if_true, if_false, true_and, and_true, not_true_eq_false, not_false_eq_true, false_and, and_false, Option.bind_some, zq_t, zq_f, zq0, zq1, zw_id, Int.reduceAdd, zmo_1 hm, zmo_r25 hm, zmo_s13 hm, b13, hw0, zy_sets hm])
        rw [zk_234_43]
        ((try simp only [zbd_conv]); simp (disch := first | assumption | omega | trivial) only [↓reduceIte, zbd_some, eq_self, Int.reduceEq, Int.reduceLT, Int.reduceLE, and_self, or_true, true_or, or_false, false_or, if_pos, if_neg, if_true, if_false, true_and, and_true, not_true_eq_false, not_false_eq_true, false_and, and_false, Option.bind_some, zq_t, zq_f, zq0, zq1, zw_id, Int.reduceAdd, zmo_1 hm, zmo_r25 hm, zmo_s13 hm, zu_off, b13, ht0, zy_sets hm])
        rw [zk_234_43]
        ((try simp only [zbd_conv]); simp (disch := first | assumption | omega | trivial) only [↓reduceIte, zbd_some, eq_self, Int.reduceEq, Int.reduceLT, Int.reduceLE, and_self, or_true, true_or, or_false, false_or, if_pos, if_neg, if_true, if_false, true_and, and_true, not_true_eq_false, not_false_eq_true, false_and, and_false, Option.bind_some, zq_t, zq_f, zq0, zq1, zw_id, Int.reduceAdd, zmo_1 hm, zmo_r25 hm, zmo_s13 hm, zu_off, b13, hm0, zy_sets hm])
        rw [zk_234_43]
        ((try simp only [zbd_conv]); simp (disch := first | assumption | omega | trivial) only [↓reduceIte, zbd_some, eq_self, Int.reduceEq, Int.reduceLT, Int.reduceLE, and_self, or_true, true_or, or_false, false_or, if_pos, if_neg, if_true, if_false, true_and, and_true, not_true_eq_false, not_false_eq_true, false_and, and_false, Option.bind_some, zq_t, zq_f, zq0, zq1, zw_id, Int.reduceAdd, zmo_1 hm, zmo_r25 hm, zmo_s13 hm, zu_off, b13, he0, zy_sets hm])
        rw [zk_234_43]
        ((try simp only [zbd_conv]); simp (disch := first | assumption | omega | trivial) only [↓reduceIte, zbd_some, eq_self, Int.reduceEq, Int.reduceLT, Int.reduceLE, and_self, or_true, true_or, or_false, false_or, if_pos, if_neg, if_true, if_false, true_and, and_true, not_true_eq_false, not_false_eq_true, false_and, and_false, Option.bind_some, zq_t, zq_f, zq0, zq1, zw_id, zmo_1 hm, zmo_r0 hm, zmo_s1 hm, zwr, ← hK0, z1, kr])
      have jk : J (M + 12) k = 1 := by rw [jq _ (by omega)]; exact o2
      refine ⟨P 0, J, R, K, ?_, ?_, z2⟩
      · rw [zm_133]
        ((try simp only [zbd_conv]); simp (disch := first | assumption | omega | trivial) only [↓reduceIte, zbd_some, eq_self, Int.reduceEq, Int.reduceLT, Int.reduceLE, and_self, or_true, true_or, or_false, false_or, if_pos, if_neg, if_true, if_false, true_and, and_true, not_true_eq_false, not_false_eq_true, false_and, and_false, Option.bind_some, zq_t, zq_f, zq0, zq1, zw_id, zcl_x1 hc, hf, zfr_k hF, zfr_r0 hF, zfr_r1 hF, zfr_lk hF, zfr_fk hF, zcl_c3 hc, (zcl_sc hc).2.1, zcl_c1 hc, zcl_c2 hc, (zcl_hi hc).2.1, (zcl_se hc).2, io, yne, y3, y2, yr0, yr1, a1, cs, fg, l1, cr])
      · rw [zm_234]
        ((try simp only [zbd_conv]); simp (disch := first | assumption | omega | trivial) only [↓reduceIte, zbd_some, eq_self, Int.reduceEq, Int.reduceLT, Int.reduceLE, and_self, or_true, true_or, or_false, false_or, if_pos, if_neg, if_true, if_false, true_and, and_true, not_true_eq_false, not_false_eq_true, false_and, and_false, Option.bind_some, zq_t, zq_f, zq0, zq1, zw_id, zmo_1 hm, zmo_r0 hm, zmo_s1 hm, zy_in, zmo_r24 hm, zmo_s12 hm, zmo_r25 hm, jk, zwr, cp])
        exact lp 19994
  · simp only [if_neg g1] at io
    refine zz_read (v := -1) h ?_ ?_ oo
    · rw [zm_133]
      ((try simp only [zbd_conv]); simp (disch := first | assumption | omega | trivial) only [↓reduceIte, zbd_some, eq_self, Int.reduceEq, Int.reduceLT, Int.reduceLE, and_self, or_true, true_or, or_false, false_or, if_pos, if_neg, if_true, if_false, true_and, and_true, not_true_eq_false, not_false_eq_true, false_and, and_false, Option.bind_some, zq_t, zq_f, zq0, zq1, zw_id, zcl_x1 hc, io])
    · rw [zm_234]
      ((try simp only [zbd_conv]); simp (disch := first | assumption | omega | trivial) only [↓reduceIte, zbd_some, eq_self, Int.reduceEq, Int.reduceLT, Int.reduceLE, and_self, or_true, true_or, or_false, false_or, if_pos, if_neg, if_true, if_false, true_and, and_true, not_true_eq_false, not_false_eq_true, false_and, and_false, Option.bind_some, zq_t, zq_f, zq0, zq1, zw_id, zy_in])
end ZBa
