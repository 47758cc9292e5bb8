/-! the sheets of the reference, at the start -/
section ZNo
variable {d : Nat} {S : zS} {I R : zI} {T : Int × Nat} {M : Int}
theorem zn_lanes (h1 : (S M).1 = 11) (r26 : R M 26 = M + 14) (s14 : S (M + 14) = (12, 4)) (w : Nat) : zi_run zt_152 (zG d) (w + 5) 165 [some (.inr (.inr M)), some (.inl 0)] [] (S, I, R, T) = some (0, (S, zi_up (zi_up (zi_up (zi_up I (M + 14) 0 (-4)) (M + 14) 1 (-4)) (M + 14) 2 (-4)) (M + 14) 3 (-4), R, T)) := by
  rw [show w + 5 = w + 1 + 1 + 1 + 1 + 1 by omega, zk_152_165]
  ((try simp only [zbd_conv]); simp (disch := first | assumption | omega | trivial) only [↓reduceIte, zbd_some, eq_self, Int.reduceEq, Int.reduceLT, Int.reduceLE, and_self, or_true, true_or, or_false, false_or, if_pos, if_neg, if_true, if_false, true_and, and_true, not_true_eq_false, not_false_eq_true, false_and, and_false, Option.bind_some, zq_t, zq_f, zq0, zq1, zw_id, Int.reduceAdd, h1, r26, s14, zwr])
  rw [zk_152_165]
  ((try simp only [zbd_conv]); simp (disch := first | assumption | omega | trivial) only [↓reduceIte, zbd_some, eq_self, Int.reduceEq, Int.reduceLT, Int.reduceLE, and_self, or_true, true_or, or_false, false_or, if_pos, if_neg, if_true, if_false, true_and, and_true, not_true_eq_false, not_false_eq_true, false_and, and_false, Option.bind_some, zq_t, zq_f, zq0, zq1, zw_id, Int.reduceAdd, h1, r26, s14, zwr])
  rw [zk_152_165]
  ((try simp only [zbd_conv]); simp (disch := first | assumption | omega | trivial) only [↓reduceIte, zbd_some, eq_self, Int.reduceEq, Int.reduceLT, Int.reduceLE, and_self, or_true, true_or, or_false, false_or, if_pos, if_neg, if_true, if_false, true_and, and_true, not_true_eq_false, not_false_eq_true, false_and, and_false, Option.bind_some, zq_t, zq_f, zq0, zq1, zw_id, Int.reduceAdd, h1, r26, s14, zwr])
  rw [zk_152_165]
  ((try simp only [zbd_conv]); simp (disch := first | assumption | omega | trivial) only [↓reduceIte, zbd_some, eq_self, Int.reduceEq, Int.reduceLT, Int.reduceLE, and_self, or_true, true_or, or_false, false_or, if_pos, if_neg, if_true, if_false, true_and, and_true, not_true_eq_false, not_false_eq_true, false_and, and_false, Option.bind_some, zq_t, zq_f, zq0, zq1, zw_id, Int.reduceAdd, h1, r26, s14, zwr])
  rw [zk_152_165]
  ((try simp only [zbd_conv]); simp (disch := first | assumption | omega | trivial) only [↓reduceIte, zbd_some, eq_self, Int.reduceEq, Int.reduceLT, Int.reduceLE, and_self, or_true, true_or, or_false, false_or, if_pos, if_neg, if_true, if_false, true_and, and_true, not_true_eq_false, not_false_eq_true, false_and, and_false, Option.bind_some, zq_t, zq_f, zq0, zq1, zw_id])
end ZNo
