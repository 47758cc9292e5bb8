/-! what there is: both answer the same -/
section ZRe
variable {d : Nat} {S : zS} {I J K R : zI} {T : Int × Nat} {X M n v l f c k x y z r i p : Int}
theorem zx_imageCount (hc : zs_cl S R X) (h0 : I (X + 272) 2 = x) (h1 : I (X + 282) 2 = y) (hx : x = 0 ∨ x = 1) (hy : y = 0 ∨ y = 1) : zG (d + 2) 131 [.inr (.inr X)] (S, I, R, T) = some (x + y, (S, I, R, T)) := by
  have k0 := (zcl_im hc (k := 0) (by omega)).2.1
  have k1 := (zcl_im hc (k := 1) (by omega)).2.1
  have n0 := (zcl_im hc (k := 0) (by omega)).1
  have n1 := (zcl_im hc (k := 1) (by omega)).1
  have e0 : ∀ d, zG (d + 1) 133 [.inr (.inr X), .inl 0] (S, I, R, T) = some (X + 272, (S, I, R, T)) := fun d => by
    rw [zx_imageOf hc, if_pos (by omega)]; exact zr_val (by omega)
  have e1 : ∀ d, zG (d + 1) 133 [.inr (.inr X), .inl 1] (S, I, R, T) = some (X + 282, (S, I, R, T)) := fun d => by
    rw [zx_imageOf hc, if_pos (by omega)]; exact zr_val (by omega)
  rw [show X + 272 + 10 * 0 = X + 272 by omega] at k0 n0
  rw [show X + 272 + 10 * 1 = X + 282 by omega] at k1 n1
  have z0 : ¬ X + 272 = 0 := by omega
  have z1 : ¬ X + 282 = 0 := by omega
  rw [zm_131]
  show zi_run _ _ _ _ _ _ _ = _
  rw [zk_131_4]
  rcases hx with hx | hx <;> rcases hy with hy | hy <;> subst hx <;> subst hy
  · ((try simp only [zbd_conv]); simp (disch := first | assumption | omega | trivial) only [↓reduceIte, zbd_some, eq_self, Int.reduceEq, Int.reduceLT, Int.reduceLE, and_self, or_true, true_or, or_false, false_or, if_pos, if_neg, if_true, if_false, true_and, and_true, not_true_eq_false, not_false_eq_true, false_and, and_false, Option.bind_some, zq_t, zq_f, zq0, zq1, zw_id, Int.reduceAdd, zcl_x1 hc, e0, z0, k0, h0])
    rw [zk_131_4]
    ((try simp only [zbd_conv]); simp (disch := first | assumption | omega | trivial) only [↓reduceIte, zbd_some, eq_self, Int.reduceEq, Int.reduceLT, Int.reduceLE, and_self, or_true, true_or, or_false, false_or, if_pos, if_neg, if_true, if_false, true_and, and_true, not_true_eq_false, not_false_eq_true, false_and, and_false, Option.bind_some, zq_t, zq_f, zq0, zq1, zw_id, Int.reduceAdd, zcl_x1 hc, e1, z1, k1, h1])
    rw [zk_131_4]
    ((try simp only [zbd_conv]); simp (disch := first | assumption | omega | trivial) only [↓reduceIte, zbd_some, eq_self, Int.reduceEq, Int.reduceLT, Int.reduceLE, and_self, or_true, true_or, or_false, false_or, if_pos, if_neg, if_true, if_false, true_and, and_true, not_true_eq_false, not_false_eq_true, false_and, and_false, Option.bind_some, zq_t, zq_f, zq0, zq1, zw_id, Int.reduceAdd])
  · ((try simp only [zbd_conv]); simp (disch := first | assumption | omega | trivial) only [↓reduceIte, zbd_some, eq_self, Int.reduceEq, Int.reduceLT, Int.reduceLE, and_self, or_true, true_or, or_false, false_or, if_pos, if_neg, if_true, if_false, true_and, and_true, not_true_eq_false, not_false_eq_true, false_and, and_false, Option.bind_some, zq_t, zq_f, zq0, zq1, zw_id, Int.reduceAdd, zcl_x1 hc, e0, z0, k0, h0])
    rw [zk_131_4]
    ((try simp only [zbd_conv]); simp (disch := first | assumption | omega | trivial) only [↓reduceIte, zbd_some, eq_self, Int.reduceEq, Int.reduceLT, Int.reduceLE, and_self, or_true, true_or, or_false, false_or, if_pos, if_neg, if_true, if_false, true_and, and_true, not_true_eq_false, not_false_eq_true, false_and, and_false, Option.bind_some, zq_t, zq_f, zq0, zq1, zw_id, Int.reduceAdd, zcl_x1 hc, e1, z1, k1, h1])
    rw [zk_131_4]
    ((try simp only [zbd_conv]); simp (disch := first | assumption | omega | trivial) only [↓reduceIte, zbd_some, eq_self, Int.reduceEq, Int.reduceLT, Int.reduceLE, and_self, or_true, true_or, or_false, false_or, if_pos, if_neg, if_true, if_false, true_and, and_true, not_true_eq_false, not_false_eq_true, false_and, and_false, Option.bind_some, zq_t, zq_f, zq0, zq1, zw_id, Int.reduceAdd])
  · ((try simp only [zbd_conv]); simp (disch := first | assumption | omega | trivial) only [↓reduceIte, zbd_some, eq_self, Int.reduceEq, Int.reduceLT, Int.reduceLE, and_self, or_true, true_or, or_false, false_or, if_pos, if_neg, if_true, if_false, true_and, and_true, not_true_eq_false, not_false_eq_true, false_and, and_false, Option.bind_some, zq_t, zq_f, zq0, zq1, zw_id, Int.reduceAdd, zcl_x1 hc, e0, z0, k0, h0])
    rw [zk_131_4]
    ((try simp only [zbd_conv]); simp (disch := first | assumption | omega | trivial) only [↓reduceIte, zbd_some, eq_self, Int.reduceEq, Int.reduceLT, Int.reduceLE, and_self, or_true, true_or, or_false, false_or, if_pos, if_neg, if_true, if_false, true_and, and_true, not_true_eq_false, not_false_eq_true, false_and, and_false, Option.bind_some, zq_t, zq_f, zq0, zq1, zw_id, Int.reduceAdd, zcl_x1 hc, e1, z1, k1, h1])
    rw [zk_131_4]
    ((try simp only [zbd_conv]); simp (disch := first | assumption | omega | trivial) only [↓reduceIte, zbd_some, eq_self, Int.reduceEq, Int.reduceLT, Int.reduceLE, and_self, or_true, true_or, or_false, false_or, if_pos, if_neg, if_true, if_false, true_and, and_true, not_true_eq_false, not_false_eq_true, false_and, and_false, Option.bind_some, zq_t, zq_f, zq0, zq1, zw_id, Int.reduceAdd])
  · ((try simp only [zbd_conv]); simp (disch := first | assumption | omega | trivial) only [↓reduceIte, zbd_some, eq_self, Int.reduceEq, Int.reduceLT, Int.reduceLE, and_self, or_true, true_or, or_false, false_or, if_pos, if_neg, if_true, if_false, true_and, and_true, not_true_eq_false, not_false_eq_true, false_and, and_false, Option.bind_some, zq_t, zq_f, zq0, zq1, zw_id, Int.reduceAdd, zcl_x1 hc, e0, z0, k0, h0])
    rw [zk_131_4]
    ((try simp only [zbd_conv]); simp (disch := first | assumption | omega | trivial) only [↓reduceIte, zbd_some, eq_self, Int.reduceEq, Int.reduceLT, Int.reduceLE, and_self, or_true, true_or, or_false, false_or, if_pos, if_neg, if_true, if_false, true_and, and_true, not_true_eq_false, not_false_eq_true, false_and, and_false, Option.bind_some, zq_t, zq_f, zq0, zq1, zw_id, Int.reduceAdd, zcl_x1 hc, e1, z1, k1, h1])
    rw [zk_131_4]
    ((try simp only [zbd_conv]); simp (disch := first | assumption | omega | trivial) only [↓reduceIte, zbd_some, eq_self, Int.reduceEq, Int.reduceLT, Int.reduceLE, and_self, or_true, true_or, or_false, false_or, if_pos, if_neg, if_true, if_false, true_and, and_true, not_true_eq_false, not_false_eq_true, false_and, and_false, Option.bind_some, zq_t, zq_f, zq0, zq1, zw_id, Int.reduceAdd])
/-- what both know of a line -/
theorem zz_laid (hlay : ∀ l, 0 ≤ l → l < I (M + 1) 0 → zl_laid (I (M + 1)) (I M 6) (I M 7) (I M 8) (I M 9) I (X + 135) l) (hl : 0 ≤ l ∧ l < I (M + 1) 0) : zl_pic (I (M + 1) (1 + l)) (I M 6) (I M 7) (I M 8) (zl_ind (I (M + 1) (1 + l)) (I M 6) (I M 7) (I M 8) (I M 9) (zt_sg (I (M + 1)) l)) (zt_sg (I (M + 1)) l) I (X + 135 + 11 + 9 * l) := hlay l hl.1 hl.2
theorem zz_ind (hmo : zr_mo I M) : 0 ≤ zl_ind n (I M 6) (I M 7) (I M 8) (I M 9) (zt_sg (I (M + 1)) l) ∧ zl_ind n (I M 6) (I M 7) (I M 8) (I M 9) (zt_sg (I (M + 1)) l) ≤ I M 6 / 2 := zl_ind_ir hmo.1 hmo.2.2.2.1 (zl_lead_nn hmo.2.1.1 41 0 0 (by omega))
end ZRe
