/-! an image is kept, and brought back -/
section ZKe
variable {d : Nat} {S : zS} {I J J1 J2 K K0 K1 R R' : zI} {T : Int × Nat} {X M n v l f c k x y z r i p w t m e b g len N o : Int} {P Q s : Int → Int}
theorem zc_im1_mk {A : zI} (y : Int) (hy : y = X + 272 + 10 * k) (h1 : I y 2 = 1) (h2 : A 12 k = 1) (hr : zv_rep I (y + 1) P) (hw : zw_page P) (e : ∀ j, 0 ≤ j → j < 520 → A 13 (524 * k + j) = P j) (hs : ∀ q, 0 ≤ q → q < 4 → I (y + 9) q = A 13 (524 * k + 520 + q)) (hz : zr_se I (y + 9)) : zc_im1 I X A k := by
  subst hy
  unfold zc_im1
  rw [h1, h2, show X + 273 + 10 * k = X + 272 + 10 * k + 1 by omega, show X + 281 + 10 * k = X + 272 + 10 * k + 9 by omega]
  exact ⟨⟨rfl, Or.inr rfl⟩, fun _ => ⟨zv_rep_page hr hw (fun j j1 j2 => e j j1 j2), hs, hz⟩⟩
theorem zc_im1_A {A A' : zI} (h : zc_im1 I X A k) (h12 : A' 12 k = A 12 k) (h13 : ∀ j, 524 * k ≤ j → j < 524 * k + 524 → A' 13 j = A 13 j) : zc_im1 I X A' k := by
  unfold zc_im1 at *
  rw [h12]
  refine ⟨h.1, fun q => ?_⟩
  obtain ⟨a1, a2, a3⟩ := h.2 q
  refine ⟨zv_rep_page a1.1 a1.2 (fun j j1 j2 => h13 (524 * k + j) (by omega) (by omega)), fun q q1 q2 => ?_, a3⟩
  rw [h13 _ (by omega) (by omega)]
  exact a2 q q1 q2
theorem zz_keep (h : zR4 S I R X M) : zz_ok (d + 11) S I R T X M 132 233 [.inl k] := by
  obtain ⟨hc, hm, hap, hall⟩ := id h
  have oo : zo_ly I I M := zo_ly_refl
  have X0 := hc.1.1
  obtain ⟨⟨hrep, hwf⟩, hst, hmo, hse, -⟩ := zR4_facts h
  obtain ⟨f, hf⟩ : ∃ f, R X 6 = f := ⟨_, rfl⟩
  rw [hf] at hrep
  have hF := zcl_fr hc hf
  have lo := zs_fa_lo (zcl_fa6 hc hf)
  have io := fun d => zx_imageOf (d := d) (I := I) (T := T) (k := k) hc
  by_cases g1 : 0 ≤ k ∧ k < 2
  · simp only [if_pos g1] at io
    obtain ⟨y, hy⟩ : ∃ y, y = X + 272 + 10 * k := ⟨_, rfl⟩
    have him := zcl_im hc g1
    rw [← hy] at io him
    obtain ⟨y0, y3, yr0, yr1, yse⟩ := him
    have yne : ¬ y = 0 := by omega
    have hG : zs_fr S R (y + 1) := zcl_fb hc (by
      rcases (show k = 0 ∨ k = 1 by omega) with q | q
      · exact Or.inr (Or.inl (by omega))
      · exact Or.inr (Or.inr (by omega)))
    have old := hall.2.2.2.2.2.2.1 k g1.1 g1.2
    unfold zc_im1 at old
    rw [zr_row_q, ← hy] at old
    obtain ⟨o1, o2⟩ := old.1
    obtain ⟨J0, hJ0⟩ : ∃ J0, J0 = zi_up I y 2 1 := ⟨_, rfl⟩
    have j0 : ∀ q, q ≠ y → J0 q = I q := fun q hq => by rw [hJ0, zu_off hq]
    obtain ⟨J1, a1, a2, a3⟩ := zx_FrCopy (d := d + 6) (I := J0) (T := T) hG hF (by omega)
    have rep1 := zv_freq_rep a3 (zv_rep_congr hrep (fun q q1 q2 => j0 q (by omega))) hwf
    have j1 : ∀ q, q ≠ y → (q < y + 1 ∨ y + 9 ≤ q) → J1 q = I q := fun q q1 q2 => by rw [a2 q (by omega), j0 q q1]
    have cs := fun d => zx_SecopyFrom (d := d) (I := J1) (R := R) (T := T) yse (zcl_se hc)
    have X4 : J1 (X + 4) = I (X + 4) := j1 _ (by omega) (by omega)
    simp only [X4, hst.1, hst.2.1, hst.2.2.1, hst.2.2.2] at cs
    obtain ⟨J, hJ⟩ : ∃ J, J = zi_up (zi_up (zi_up (zi_up J1 (y + 9) 0 (I M 6)) (y + 9) 1 (I M 7)) (y + 9) 2 (I M 8)) (y + 9) 3 (I M 9) := ⟨_, rfl⟩
    simp only [← hJ] at cs
    have jq : ∀ q, q ≠ y + 9 → J q = J1 q := fun q hq => by rw [hJ, zu_off hq, zu_off hq, zu_off hq, zu_off hq]
    have jI : ∀ q, (q < y ∨ y + 10 ≤ q) → J q = I q := fun q hq => by rw [jq q (by omega), j1 q (by omega) (by omega)]
    have J9 : J (y + 9) 0 = I M 6 ∧ J (y + 9) 1 = I M 7 ∧ J (y + 9) 2 = I M 8 ∧ J (y + 9) 3 = I M 9 := by
      rw [hJ]
      refine ⟨?_, ?_, ?_, ?_⟩
      · rw [zu_ne (by omega), zu_ne (by omega), zu_ne (by omega), zu_eq ⟨rfl, rfl⟩]
      · rw [zu_ne (by omega), zu_ne (by omega), zu_eq ⟨rfl, rfl⟩]
      · rw [zu_ne (by omega), zu_eq ⟨rfl, rfl⟩]
      · rw [zu_eq ⟨rfl, rfl⟩]
    have Jy : J y 2 = 1 := by rw [jq y (by omega), a2 y (by omega), hJ0, zu_eq ⟨rfl, rfl⟩]
    -- the reference
    obtain ⟨B, hB⟩ : ∃ B, B = zi_cpy (zi_up J (M + 12) k 1) (M + 1) (M + 13) 0 (524 * k) 520 := ⟨_, rfl⟩
    have cp := zy_copies (d := d + 9) (I := zi_up J (M + 12) k 1) (R := R) (T := T) (o := 0) (w := 524 * k) (zmo_s1 hm) (zmo_s13 hm) (by omega) (by omega) (by omega)
    rw [← hB] at cp
    have B13 : ∀ j, B (M + 13) j = if 524 * k ≤ j ∧ j < 524 * k + 520 then I (M + 1) (j - 524 * k) else I (M + 13) j := fun j => by
      rw [hB, zi_cpy_at2]
      by_cases q : 524 * k ≤ j ∧ j < 524 * k + 520
      · rw [if_pos (by omega), if_pos q, zu_off (by omega), jI _ (by omega)]
        congr 1; omega
      · rw [if_neg (by omega), if_neg q, zu_off (by omega), jI _ (by omega)]
    have Bq : ∀ q, q ≠ M + 12 → q ≠ M + 13 → B q = J q := fun q q1 q2 => by
      rw [hB]
      funext j
      rw [zi_cpy_at2, if_neg (by omega), zu_off q1]
    have B12 : ∀ j, B (M + 12) j = if j = k then 1 else I (M + 12) j := fun j => by
      rw [hB, zi_cpy_at2, if_neg (by omega), zi_up_at, jI _ (by omega)]
      by_cases q : j = k
      · rw [if_pos ⟨rfl, q⟩, if_pos q]
      · rw [if_neg (by omega), if_neg q]
    have BM : B M = I M := by rw [Bq M (by omega) (by omega), jI _ (by omega)]
    have e6 : B M 6 = I M 6 := by rw [BM]
    have e7 : B M 7 = I M 7 := by rw [BM]
    have e8 : B M 8 = I M 8 := by rw [BM]
    have e9 : B M 9 = I M 9 := by rw [BM]
    obtain ⟨K, hK⟩ : ∃ K, K = zi_up (zi_up (zi_up (zi_up B (M + 13) (524 * k + 520 + 0) (I M 6)) (M + 13) (524 * k + 520 + 1) (I M 7)) (M + 13) (524 * k + 520 + 2) (I M 8)) (M + 13) (524 * k + 520 + 3) (I M 9) := ⟨_, rfl⟩
    have lp : ∀ u w', zi_run zt_233 (zG (d + 10)) (w' + 5) 53 [some (.inr (.inr M)), some (.inl k), some (.inl u), some (.inl 0)] [] (S, B, R, T) = some (u, (S, K, R, T)) := fun u w' => by
      rw [show w' + 5 = w' + 1 + 1 + 1 + 1 + 1 by omega, zk_233_53]
      ((try simp only [zbd_conv]); simp (disch := first | assumption | omega | trivial) only [↓reduceIte, zbd_some, eq_self, Int.reduceEq, Int.reduceLT, Int.reduceLE, and_self, or_true, true_or, or_false, false_or, if_pos, if_neg, if_true, if_false, true_and, and_true, not_true_eq_false, not_false_eq_true, false_and, and_false, Option.bind_some, zq_t, zq_f, zq0, zq1, zw_id, Int.reduceAdd, zmo_1 hm, zmo_r25 hm, zmo_s13 hm, zy_setting hm, e6, zwr])
      rw [zk_233_53]
      ((try simp only [zbd_conv]); simp (disch := first | assumption | omega | trivial) only [↓reduceIte, zbd_some, eq_self, Int.reduceEq, Int.reduceLT, Int.reduceLE, and_self, or_true, true_or, or_false, false_or, if_pos, if_neg, if_true, if_false, true_and, and_true, not_true_eq_false, not_false_eq_true, false_and, and_false, Option.bind_some, zq_t, zq_f, zq0, zq1, zw_id, Int.reduceAdd, zmo_1 hm, zmo_r25 hm, zmo_s13 hm, zy_setting hm, zu_ne, e7, zwr])
      rw [zk_233_53]
      ((try simp only [zbd_conv]); simp (disch := first | assumption | omega | trivial) only [↓reduceIte, zbd_some, eq_self, Int.reduceEq, Int.reduceLT, Int.reduceLE, and_self, or_true, true_or, or_false, false_or, if_pos, if_neg, if_true, if_false, true_and, and_true, not_true_eq_false, not_false_eq_true, false_and, and_false, Option.bind_some, zq_t, zq_f, zq0, zq1, zw_id, Int.reduceAdd, zmo_1 hm, zmo_r25 hm, zmo_s13 hm, zy_setting hm, zu_ne, e8, zwr])
      rw [zk_233_53]
      ((try simp only [zbd_conv]); simp (disch := first | assumption | omega | trivial) only [↓reduceIte, zbd_some, eq_self, Int.reduceEq, Int.reduceLT, Int.reduceLE, and_self, or_true, true_or, or_false, false_or, if_pos, if_neg, if_true, if_false, true_and, and_true, not_true_eq_false, not_false_eq_true, false_and, and_false, Option.bind_some, zq_t, zq_f, zq0, zq1, zw_id, Int.reduceAdd, zmo_1 hm, zmo_r25 hm, zmo_s13 hm, zy_setting hm, zu_ne, e9, zwr])
      rw [zk_233_53, hK]
      ((try simp only [zbd_conv]); simp (disch := first | assumption | omega | trivial) only [↓reduceIte, zbd_some, eq_self, Int.reduceEq, Int.reduceLT, Int.reduceLE, and_self, or_true, true_or, or_false, false_or, if_pos, if_neg, if_true, if_false, true_and, and_true, not_true_eq_false, not_false_eq_true, false_and, and_false, Option.bind_some, zq_t, zq_f, zq0, zq1, zw_id])
    have K13 : ∀ j, (j < 524 * k + 520 ∨ 524 * k + 524 ≤ j) → K (M + 13) j = B (M + 13) j := fun j hj => by
      rw [hK, zu_ne (by omega), zu_ne (by omega), zu_ne (by omega), zu_ne (by omega)]
    have Kq : ∀ q, q ≠ M + 13 → K q = B q := fun q hq => by rw [hK, zu_off hq, zu_off hq, zu_off hq, zu_off hq]
    have Ks : ∀ q, 0 ≤ q → q < 4 → K (M + 13) (524 * k + 520 + q) = J (y + 9) q := fun q q1 q2 => by
      rw [hK]
      rcases (show q = 0 ∨ q = 1 ∨ q = 2 ∨ q = 3 by omega) with e | e | e | e <;> subst e
      · rw [zu_ne (by omega), zu_ne (by omega), zu_ne (by omega), zu_eq ⟨rfl, rfl⟩, J9.1]
      · rw [zu_ne (by omega), zu_ne (by omega), zu_eq ⟨rfl, rfl⟩, J9.2.1]
      · rw [zu_ne (by omega), zu_eq ⟨rfl, rfl⟩, J9.2.2.1]
      · rw [zu_eq ⟨rfl, rfl⟩, J9.2.2.2]
    have fin : zR4 S K R X M := by
      have kI : ∀ q, q < M → K q = J q := fun q q1 => by rw [Kq q (by omega), Bq q (by omega) (by omega)]
      have kJ : ∀ q, (q < y ∨ y + 10 ≤ q) → q ≠ M + 12 → q ≠ M + 13 → K q = I q := fun q q1 q2 q3 => by rw [Kq q q3, Bq q q2 q3, jI q q1]
      refine zR4_tis h (fun q q1 q2 _ _ => kJ q (by omega) (by omega) (by omega)) (fun j _ => by rw [kJ M (by omega) (by omega) (by omega)]) (fun q q1 _ q2 => kJ q (by omega) (by omega) (by omega)) ?_ (fun x x1 x2 => ?_) ?_
      · exact zc_tap_A (zc_tap_I hall.2.2.2.2.1 (by rw [kJ (X + 1) (by omega) (by omega) (by omega)]) (kJ (X + 2) (by omega) (by omega) (by omega))) (by rw [zr_row0, zr_row0, kJ M (by omega) (by omega) (by omega)]) (kJ (M + 5) (by omega) (by omega) (by omega))
      · by_cases gx : x = k
        · subst gx
          refine zc_im1_mk (P := I (M + 1)) y hy (by rw [kI y (by omega), Jy]) (by rw [zr_row_q, Kq _ (by omega), B12, if_pos rfl]) (zv_rep_congr rep1 (fun q q1 q2 => by rw [kI q (by omega), jq q (by omega)])) hwf (fun j j1 j2 => by
            rw [zr_row_q, K13 _ (by omega), B13, if_pos (by omega)]
            congr 1; omega) (fun q q1 q2 => by rw [zr_row_q, Ks q q1 q2, kI _ (by omega)]) ?_
          unfold zr_se
          rw [kI _ (by omega), J9.1, J9.2.1, J9.2.2.1, J9.2.2.2]
          exact hmo
        · have ox := hall.2.2.2.2.2.2.1 x x1 x2
          refine zc_im1_A (zc_im1_I ox (fun q q1 q2 => kJ q (by omega) (by omega) (by omega))) ?_ (fun j j1 j2 => ?_)
          · rw [zr_row_q, zr_row_q, Kq _ (by omega), B12, if_neg gx]
          · rw [zr_row_q, zr_row_q, K13 _ (by omega), B13, if_neg (by omega)]
      · exact zc_shs_A (zc_shs_I hall.2.2.2.2.2.2.2 (fun q q1 q2 => kJ q (by omega) (by omega) (by omega))) (kJ (M + 14) (by omega) (by omega) (by omega)) (kJ (M + 15) (by omega) (by omega) (by omega)) (kJ (M + 16) (by omega) (by omega) (by omega))
    have jk : J (M + 12) k = I (M + 12) k := by rw [jI _ (by omega)]
    rcases o2 with o2 | o2
    · rw [o2] at o1 jk
      refine ⟨0, J, R, K, ?_, ?_, fin⟩
      · rw [zm_132]
        ((try simp only [zbd_conv]); simp (disch := first | assumption | omega | trivial) only [↓reduceIte, zbd_some, eq_self, Int.reduceEq, Int.reduceLT, Int.reduceLE, and_self, or_true, true_or, or_false, false_or, if_pos, if_neg, if_true, if_false, true_and, and_true, not_true_eq_false, not_false_eq_true, false_and, and_false, Option.bind_some, zq_t, zq_f, zq0, zq1, zw_id, zcl_x1 hc, hf, zfr_k hF, zfr_r0 hF, zfr_r1 hF, zfr_lk hF, zfr_fk hF, zcl_c3 hc, (zcl_sc hc).2.1, zcl_c1 hc, io, yne, y3, o1, zwr, ← hJ0, yr0, yr1, (zfr_k hG), a1, yse.2, cs])
      · rw [zm_233]
        ((try simp only [zbd_conv]); simp (disch := first | assumption | omega | trivial) only [↓reduceIte, zbd_some, eq_self, Int.reduceEq, Int.reduceLT, Int.reduceLE, and_self, or_true, true_or, or_false, false_or, if_pos, if_neg, if_true, if_false, true_and, and_true, not_true_eq_false, not_false_eq_true, false_and, and_false, Option.bind_some, zq_t, zq_f, zq0, zq1, zw_id, zmo_1 hm, zmo_r0 hm, zmo_s1 hm, zy_in, zmo_r24 hm, zmo_s12 hm, zmo_r25 hm, jk, zwr, cp])
        exact lp 0 19994
    · rw [o2] at o1 jk
      refine ⟨1, J, R, K, ?_, ?_, fin⟩
      · rw [zm_132]
        ((try simp only [zbd_conv]); simp (disch := first | assumption | omega | trivial) only [↓reduceIte, zbd_some, eq_self, Int.reduceEq, Int.reduceLT, Int.reduceLE, and_self, or_true, true_or, or_false, false_or, if_pos, if_neg, if_true, if_false, true_and, and_true, not_true_eq_false, not_false_eq_true, false_and, and_false, Option.bind_some, zq_t, zq_f, zq0, zq1, zw_id, zcl_x1 hc, hf, zfr_k hF, zfr_r0 hF, zfr_r1 hF, zfr_lk hF, zfr_fk hF, zcl_c3 hc, (zcl_sc hc).2.1, zcl_c1 hc, io, yne, y3, o1, zwr, ← hJ0, yr0, yr1, (zfr_k hG), a1, yse.2, cs])
      · rw [zm_233]
        ((try simp only [zbd_conv]); simp (disch := first | assumption | omega | trivial) only [↓reduceIte, zbd_some, eq_self, Int.reduceEq, Int.reduceLT, Int.reduceLE, and_self, or_true, true_or, or_false, false_or, if_pos, if_neg, if_true, if_false, true_and, and_true, not_true_eq_false, not_false_eq_true, false_and, and_false, Option.bind_some, zq_t, zq_f, zq0, zq1, zw_id, zmo_1 hm, zmo_r0 hm, zmo_s1 hm, zy_in, zmo_r24 hm, zmo_s12 hm, zmo_r25 hm, jk, zwr, cp])
        exact lp 1 19994
  · simp only [if_neg g1] at io
    refine zz_read (v := -1) h ?_ ?_ oo
    · rw [zm_132]
      ((try simp only [zbd_conv]); simp (disch := first | assumption | omega | trivial) only [↓reduceIte, zbd_some, eq_self, Int.reduceEq, Int.reduceLT, Int.reduceLE, and_self, or_true, true_or, or_false, false_or, if_pos, if_neg, if_true, if_false, true_and, and_true, not_true_eq_false, not_false_eq_true, false_and, and_false, Option.bind_some, zq_t, zq_f, zq0, zq1, zw_id, zcl_x1 hc, io])
    · rw [zm_233]
      ((try simp only [zbd_conv]); simp (disch := first | assumption | omega | trivial) only [↓reduceIte, zbd_some, eq_self, Int.reduceEq, Int.reduceLT, Int.reduceLE, and_self, or_true, true_or, or_false, false_or, if_pos, if_neg, if_true, if_false, true_and, and_true, not_true_eq_false, not_false_eq_true, false_and, and_false, Option.bind_some, zq_t, zq_f, zq0, zq1, zw_id, zy_in])
end ZKe
