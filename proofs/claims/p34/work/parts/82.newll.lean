/-! a new laid line -/
section ZNl
variable {d : Nat} {S S' : zS} {I I' R R' : zI} {T : Int × Nat} {a n x k c : Int} {kd sl t : Nat}
theorem zn_LL (h : (S a).1 = 4) (ha : 0 < a) : ∃ S' I' R', zG (d + 2) 33 [.inr (.inr a)] (S, I, R, (a + 1, t)) = some (0, (S', I', R', (a + 9, t + 329))) ∧ zs_ll S' R' a ∧ ∀ q, q < a → S' q = S q ∧ I' q = I q ∧ R' q = R q := by
  have e : a + 1 + 1 + 1 + 1 + 1 + 1 + 1 + 1 + 1 = a + 9 := by omega
  refine ⟨(zn (zn (zn (zn (zn (zn (zn (zn S (a + 1) 12 41) (a + 1 + 1) 12 41) (a + 1 + 1 + 1) 12 41) (a + 1 + 1 + 1 + 1) 12 41) (a + 1 + 1 + 1 + 1 + 1) 12 41) (a + 1 + 1 + 1 + 1 + 1 + 1) 12 41) (a + 1 + 1 + 1 + 1 + 1 + 1 + 1) 12 42) (a + 1 + 1 + 1 + 1 + 1 + 1 + 1 + 1) 12 41), (zn0 (zn0 (zn0 (zn0 (zn0 (zn0 (zn0 (zn0 (zi_up (zi_up (zi_up I a 0 0) a 1 1) a 2 0) (a + 1)) (a + 1 + 1)) (a + 1 + 1 + 1)) (a + 1 + 1 + 1 + 1)) (a + 1 + 1 + 1 + 1 + 1)) (a + 1 + 1 + 1 + 1 + 1 + 1)) (a + 1 + 1 + 1 + 1 + 1 + 1 + 1)) (a + 1 + 1 + 1 + 1 + 1 + 1 + 1 + 1)), (zi_up (zn0 (zi_up (zn0 (zi_up (zn0 (zi_up (zn0 (zi_up (zn0 (zi_up (zn0 (zi_up (zn0 (zi_up (zn0 R (a + 1)) a 3 (a + 1)) (a + 1 + 1)) a 4 (a + 1 + 1)) (a + 1 + 1 + 1)) a 5 (a + 1 + 1 + 1)) (a + 1 + 1 + 1 + 1)) a 6 (a + 1 + 1 + 1 + 1)) (a + 1 + 1 + 1 + 1 + 1)) a 7 (a + 1 + 1 + 1 + 1 + 1)) (a + 1 + 1 + 1 + 1 + 1 + 1)) a 8 (a + 1 + 1 + 1 + 1 + 1 + 1)) (a + 1 + 1 + 1 + 1 + 1 + 1 + 1)) a 9 (a + 1 + 1 + 1 + 1 + 1 + 1 + 1)) (a + 1 + 1 + 1 + 1 + 1 + 1 + 1 + 1)) a 10 (a + 1 + 1 + 1 + 1 + 1 + 1 + 1 + 1)), ?_, ⟨ha, ?_, ⟨?_, ?_, ?_, ?_, ?_, ?_, ?_, ?_⟩, ?_, ?_, ?_, ?_, ?_, ?_, ?_, ?_⟩, fun q hq => ⟨?_, ?_, ?_⟩⟩
  · rw [zm_33]
    ((try simp only [zbd_conv]); simp (config := { maxSteps := 1000000 }) (disch := first | assumption | omega | trivial) only [↓reduceIte, zbd_some, eq_self, Int.reduceEq, Int.reduceLT, Int.reduceLE, and_self, or_true, true_or, or_false, false_or, if_pos, if_neg, if_true, if_false, true_and, and_true, not_true_eq_false, not_false_eq_true, false_and, and_false, Option.bind_some, zq_t, zq_f, zq0, zq1, zw_id, h, zn_obj, zwr, zwq, zn_new, zn_ne, Int.reduceLE, Int.reduceToNat, e])
  · simp (disch := first | assumption | omega | trivial) only [if_pos, if_neg, if_true, if_false, true_and, and_true, not_true_eq_false, not_false_eq_true, false_and, and_false, Option.bind_some, zq_t, zq_f, zq0, zq1, zw_id, zn_ne, h]
  · simp (disch := first | assumption | omega | trivial) only [if_pos, if_neg, if_true, if_false, true_and, and_true, not_true_eq_false, not_false_eq_true, false_and, and_false, Option.bind_some, zq_t, zq_f, zq0, zq1, zw_id, zu_ne, zn0_ne, zu_eq]
  · simp (disch := first | assumption | omega | trivial) only [if_pos, if_neg, if_true, if_false, true_and, and_true, not_true_eq_false, not_false_eq_true, false_and, and_false, Option.bind_some, zq_t, zq_f, zq0, zq1, zw_id, zu_ne, zn0_ne, zu_eq]
    omega
  · simp (disch := first | assumption | omega | trivial) only [if_pos, if_neg, if_true, if_false, true_and, and_true, not_true_eq_false, not_false_eq_true, false_and, and_false, Option.bind_some, zq_t, zq_f, zq0, zq1, zw_id, zu_ne, zn0_ne, zu_eq]
    omega
  · simp (disch := first | assumption | omega | trivial) only [if_pos, if_neg, if_true, if_false, true_and, and_true, not_true_eq_false, not_false_eq_true, false_and, and_false, Option.bind_some, zq_t, zq_f, zq0, zq1, zw_id, zu_ne, zn0_ne, zu_eq]
    omega
  · simp (disch := first | assumption | omega | trivial) only [if_pos, if_neg, if_true, if_false, true_and, and_true, not_true_eq_false, not_false_eq_true, false_and, and_false, Option.bind_some, zq_t, zq_f, zq0, zq1, zw_id, zu_ne, zn0_ne, zu_eq]
    omega
  · simp (disch := first | assumption | omega | trivial) only [if_pos, if_neg, if_true, if_false, true_and, and_true, not_true_eq_false, not_false_eq_true, false_and, and_false, Option.bind_some, zq_t, zq_f, zq0, zq1, zw_id, zu_ne, zn0_ne, zu_eq]
    omega
  · simp (disch := first | assumption | omega | trivial) only [if_pos, if_neg, if_true, if_false, true_and, and_true, not_true_eq_false, not_false_eq_true, false_and, and_false, Option.bind_some, zq_t, zq_f, zq0, zq1, zw_id, zu_ne, zn0_ne, zu_eq]
    omega
  · simp (disch := first | assumption | omega | trivial) only [if_pos, if_neg, if_true, if_false, true_and, and_true, not_true_eq_false, not_false_eq_true, false_and, and_false, Option.bind_some, zq_t, zq_f, zq0, zq1, zw_id, zu_ne, zn0_ne, zu_eq]
    omega
  · simp (disch := first | assumption | omega | trivial) only [if_pos, if_neg, if_true, if_false, true_and, and_true, not_true_eq_false, not_false_eq_true, false_and, and_false, Option.bind_some, zq_t, zq_f, zq0, zq1, zw_id, zn_ne, zn_eq]
  · simp (disch := first | assumption | omega | trivial) only [if_pos, if_neg, if_true, if_false, true_and, and_true, not_true_eq_false, not_false_eq_true, false_and, and_false, Option.bind_some, zq_t, zq_f, zq0, zq1, zw_id, zn_ne, zn_eq]
  · simp (disch := first | assumption | omega | trivial) only [if_pos, if_neg, if_true, if_false, true_and, and_true, not_true_eq_false, not_false_eq_true, false_and, and_false, Option.bind_some, zq_t, zq_f, zq0, zq1, zw_id, zn_ne, zn_eq]
  · simp (disch := first | assumption | omega | trivial) only [if_pos, if_neg, if_true, if_false, true_and, and_true, not_true_eq_false, not_false_eq_true, false_and, and_false, Option.bind_some, zq_t, zq_f, zq0, zq1, zw_id, zn_ne, zn_eq]
  · simp (disch := first | assumption | omega | trivial) only [if_pos, if_neg, if_true, if_false, true_and, and_true, not_true_eq_false, not_false_eq_true, false_and, and_false, Option.bind_some, zq_t, zq_f, zq0, zq1, zw_id, zn_ne, zn_eq]
  · simp (disch := first | assumption | omega | trivial) only [if_pos, if_neg, if_true, if_false, true_and, and_true, not_true_eq_false, not_false_eq_true, false_and, and_false, Option.bind_some, zq_t, zq_f, zq0, zq1, zw_id, zn_ne, zn_eq]
  · simp (disch := first | assumption | omega | trivial) only [if_pos, if_neg, if_true, if_false, true_and, and_true, not_true_eq_false, not_false_eq_true, false_and, and_false, Option.bind_some, zq_t, zq_f, zq0, zq1, zw_id, zn_ne, zn_eq]
  · simp (disch := first | assumption | omega | trivial) only [if_pos, if_neg, if_true, if_false, true_and, and_true, not_true_eq_false, not_false_eq_true, false_and, and_false, Option.bind_some, zq_t, zq_f, zq0, zq1, zw_id, zn_ne, zn_eq]
  · simp (disch := first | assumption | omega | trivial) only [if_pos, if_neg, if_true, if_false, true_and, and_true, not_true_eq_false, not_false_eq_true, false_and, and_false, Option.bind_some, zq_t, zq_f, zq0, zq1, zw_id, zn_ne]
  · simp (disch := first | assumption | omega | trivial) only [if_pos, if_neg, if_true, if_false, true_and, and_true, not_true_eq_false, not_false_eq_true, false_and, and_false, Option.bind_some, zq_t, zq_f, zq0, zq1, zw_id, zn0_ne, zu_off]
  · simp (disch := first | assumption | omega | trivial) only [if_pos, if_neg, if_true, if_false, true_and, and_true, not_true_eq_false, not_false_eq_true, false_and, and_false, Option.bind_some, zq_t, zq_f, zq0, zq1, zw_id, zn0_ne, zu_off]
end ZNl
