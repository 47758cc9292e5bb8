/-! new cells -/
def zn (S : zS) (a : Int) (kd : Nat) (n : Int) : zS := fun x => if x = a then (kd, n) else S x
def zn0 (I : zI) (a : Int) : zI := fun x k => if x = a then 0 else I x k
section ZNw
variable {d : Nat} {S : zS} {I R : zI} {T : Int × Nat} {a n x k c : Int} {kd sl t : Nat}
theorem zn_new : zi_new (S, I, R, (c, t)) kd n sl = (zn S c kd n, zn0 I c, zn0 R c, (c + 1, t + sl)) := rfl
theorem zn_eq (h : x = a) : zn S a kd n x = (kd, n) := if_pos h
theorem zn_ne (h : ¬ x = a) : zn S a kd n x = S x := if_neg h
theorem zn0_eq (h : x = a) : zn0 I a x k = 0 := if_pos h
theorem zn0_ne (h : ¬ x = a) : zn0 I a x = I x := by
  funext k; exact if_neg h
theorem zn_obj : zG (d + 1) 1000 [.inr (.inr a)] (S, I, R, T) = some (0, (S, I, R, T)) := rfl
theorem zn_Se (h : (S a).1 = 7) : zG (d + 2) 83 [.inr (.inr a)] (S, I, R, T) = some (0, (S, zi_up (zi_up (zi_up (zi_up I a 0 20) a 1 4) a 2 2) a 3 2, R, T)) := by
  rw [zm_83]
  ((try simp only [zbd_conv]); simp (disch := first | assumption | omega | trivial) only [↓reduceIte, zbd_some, eq_self, Int.reduceEq, Int.reduceLT, Int.reduceLE, and_self, or_true, true_or, or_false, false_or, if_pos, if_neg, if_true, if_false, true_and, and_true, not_true_eq_false, not_false_eq_true, false_and, and_false, Option.bind_some, zq_t, zq_f, zq0, zq1, zw_id, h, zn_obj, zwr])
theorem zn_F (h : (S a).1 = 0) (ha : 0 < a) : ∃ S' I' R', zG (d + 2) 0 [.inr (.inr a)] (S, I, R, (a + 1, t)) = some (0, (S', I', R', (a + 4, t + 24))) ∧ zs_fo S' R' a ∧ I' a 0 = 0 ∧ ∀ q, q < a → S' q = S q ∧ I' q = I q ∧ R' q = R q := by
  have e : a + 1 + 1 + 1 + 1 = a + 4 := by omega
  refine ⟨zn (zn (zn S (a + 1) 12 8) (a + 1 + 1) 12 8) (a + 1 + 1 + 1) 12 8, zn0 (zn0 (zn0 (zi_up I a 0 0) (a + 1)) (a + 1 + 1)) (a + 1 + 1 + 1), zi_up (zn0 (zi_up (zn0 (zi_up (zn0 R (a + 1)) a 1 (a + 1)) (a + 1 + 1)) a 2 (a + 1 + 1)) (a + 1 + 1 + 1)) a 3 (a + 1 + 1 + 1), ?_, ⟨ha, ?_, ?_, ?_, ?_, ?_, ?_, ?_⟩, ?_, fun q hq => ⟨?_, ?_, ?_⟩⟩
  · rw [zm_0]
    ((try simp only [zbd_conv]); simp (disch := first | assumption | omega | trivial) only [↓reduceIte, zbd_some, eq_self, Int.reduceEq, Int.reduceLT, Int.reduceLE, and_self, or_true, true_or, or_false, false_or, if_pos, if_neg, if_true, if_false, true_and, and_true, not_true_eq_false, not_false_eq_true, false_and, and_false, Option.bind_some, zq_t, zq_f, zq0, zq1, zw_id, h, zn_obj, zwr, zwq, zn_new, zn_ne, Int.reduceLE, Int.reduceToNat, e])
  · simp (disch := first | assumption | omega | trivial) only [if_pos, if_neg, if_true, if_false, true_and, and_true, not_true_eq_false, not_false_eq_true, false_and, and_false, Option.bind_some, zq_t, zq_f, zq0, zq1, zw_id, zn_ne, h]
  · simp (disch := first | assumption | omega | trivial) only [if_pos, if_neg, if_true, if_false, true_and, and_true, not_true_eq_false, not_false_eq_true, false_and, and_false, Option.bind_some, zq_t, zq_f, zq0, zq1, zw_id, zu_ne, zn0_ne, zu_eq]
  · simp (disch := first | assumption | omega | trivial) only [if_pos, if_neg, if_true, if_false, true_and, and_true, not_true_eq_false, not_false_eq_true, false_and, and_false, Option.bind_some, zq_t, zq_f, zq0, zq1, zw_id, zu_ne, zn0_ne, zu_eq]
    omega
  · simp (disch := first | assumption | omega | trivial) only [if_pos, if_neg, if_true, if_false, true_and, and_true, not_true_eq_false, not_false_eq_true, false_and, and_false, Option.bind_some, zq_t, zq_f, zq0, zq1, zw_id, zu_ne, zn0_ne, zu_eq]
    omega
  · simp (disch := first | assumption | omega | trivial) only [if_pos, if_neg, if_true, if_false, true_and, and_true, not_true_eq_false, not_false_eq_true, false_and, and_false, Option.bind_some, zq_t, zq_f, zq0, zq1, zw_id, zn_ne, zn_eq]
  · simp (disch := first | assumption | omega | trivial) only [if_pos, if_neg, if_true, if_false, true_and, and_true, not_true_eq_false, not_false_eq_true, false_and, and_false, Option.bind_some, zq_t, zq_f, zq0, zq1, zw_id, zn_ne, zn_eq]
  · simp (disch := first | assumption | omega | trivial) only [if_pos, if_neg, if_true, if_false, true_and, and_true, not_true_eq_false, not_false_eq_true, false_and, and_false, Option.bind_some, zq_t, zq_f, zq0, zq1, zw_id, zn_ne, zn_eq]
  · simp (disch := first | assumption | omega | trivial) only [if_pos, if_neg, if_true, if_false, true_and, and_true, not_true_eq_false, not_false_eq_true, false_and, and_false, Option.bind_some, zq_t, zq_f, zq0, zq1, zw_id, zn0_ne, zu_eq]
  · simp (disch := first | assumption | omega | trivial) only [if_pos, if_neg, if_true, if_false, true_and, and_true, not_true_eq_false, not_false_eq_true, false_and, and_false, Option.bind_some, zq_t, zq_f, zq0, zq1, zw_id, zn_ne]
  · simp (disch := first | assumption | omega | trivial) only [if_pos, if_neg, if_true, if_false, true_and, and_true, not_true_eq_false, not_false_eq_true, false_and, and_false, Option.bind_some, zq_t, zq_f, zq0, zq1, zw_id, zn0_ne, zu_off]
  · simp (disch := first | assumption | omega | trivial) only [if_pos, if_neg, if_true, if_false, true_and, and_true, not_true_eq_false, not_false_eq_true, false_and, and_false, Option.bind_some, zq_t, zq_f, zq0, zq1, zw_id, zn0_ne, zu_off]
theorem zn_Li (h : (S a).1 = 5) (ha : 0 < a) : ∃ S' I' R', zG (d + 2) 55 [.inr (.inr a)] (S, I, R, (a + 1, t)) = some (0, (S', I', R', (a + 3, t + 492))) ∧ zs_li S' R' a ∧ (I' a 0 = 1 ∧ (∀ j, I' (a + 1) j = 0) ∧ ∀ j, I' (a + 2) j = 0) ∧ ∀ q, q < a → S' q = S q ∧ I' q = I q ∧ R' q = R q := by
  have e : a + 1 + 1 + 1 = a + 3 := by omega
  refine ⟨zn (zn S (a + 1) 12 12) (a + 1 + 1) 12 480, zn0 (zn0 (zi_up I a 0 1) (a + 1)) (a + 1 + 1), zi_up (zn0 (zi_up (zn0 R (a + 1)) a 1 (a + 1)) (a + 1 + 1)) a 2 (a + 1 + 1), ?_, ⟨ha, ?_, ?_, ?_, ?_, ?_⟩, ⟨?_, fun j => ?_, fun j => ?_⟩, fun q hq => ⟨?_, ?_, ?_⟩⟩
  · rw [zm_55]
    ((try simp only [zbd_conv]); simp (disch := first | assumption | omega | trivial) only [↓reduceIte, zbd_some, eq_self, Int.reduceEq, Int.reduceLT, Int.reduceLE, and_self, or_true, true_or, or_false, false_or, if_pos, if_neg, if_true, if_false, true_and, and_true, not_true_eq_false, not_false_eq_true, false_and, and_false, Option.bind_some, zq_t, zq_f, zq0, zq1, zw_id, h, zn_obj, zwr, zwq, zn_new, zn_ne, Int.reduceLE, Int.reduceToNat, e])
  · simp (disch := first | assumption | omega | trivial) only [if_pos, if_neg, if_true, if_false, true_and, and_true, not_true_eq_false, not_false_eq_true, false_and, and_false, Option.bind_some, zq_t, zq_f, zq0, zq1, zw_id, zn_ne, h]
  · simp (disch := first | assumption | omega | trivial) only [if_pos, if_neg, if_true, if_false, true_and, and_true, not_true_eq_false, not_false_eq_true, false_and, and_false, Option.bind_some, zq_t, zq_f, zq0, zq1, zw_id, zu_ne, zn0_ne, zu_eq]
  · simp (disch := first | assumption | omega | trivial) only [if_pos, if_neg, if_true, if_false, true_and, and_true, not_true_eq_false, not_false_eq_true, false_and, and_false, Option.bind_some, zq_t, zq_f, zq0, zq1, zw_id, zu_ne, zn0_ne, zu_eq]
    omega
  · simp (disch := first | assumption | omega | trivial) only [if_pos, if_neg, if_true, if_false, true_and, and_true, not_true_eq_false, not_false_eq_true, false_and, and_false, Option.bind_some, zq_t, zq_f, zq0, zq1, zw_id, zn_ne, zn_eq]
  · simp (disch := first | assumption | omega | trivial) only [if_pos, if_neg, if_true, if_false, true_and, and_true, not_true_eq_false, not_false_eq_true, false_and, and_false, Option.bind_some, zq_t, zq_f, zq0, zq1, zw_id, zn_ne, zn_eq]
  · simp (disch := first | assumption | omega | trivial) only [if_pos, if_neg, if_true, if_false, true_and, and_true, not_true_eq_false, not_false_eq_true, false_and, and_false, Option.bind_some, zq_t, zq_f, zq0, zq1, zw_id, zn0_ne, zu_eq]
  · simp (disch := first | assumption | omega | trivial) only [if_pos, if_neg, if_true, if_false, true_and, and_true, not_true_eq_false, not_false_eq_true, false_and, and_false, Option.bind_some, zq_t, zq_f, zq0, zq1, zw_id, zn0_ne, zn0_eq]
  · simp (disch := first | assumption | omega | trivial) only [if_pos, if_neg, if_true, if_false, true_and, and_true, not_true_eq_false, not_false_eq_true, false_and, and_false, Option.bind_some, zq_t, zq_f, zq0, zq1, zw_id, zn0_ne, zn0_eq]
  · simp (disch := first | assumption | omega | trivial) only [if_pos, if_neg, if_true, if_false, true_and, and_true, not_true_eq_false, not_false_eq_true, false_and, and_false, Option.bind_some, zq_t, zq_f, zq0, zq1, zw_id, zn_ne]
  · simp (disch := first | assumption | omega | trivial) only [if_pos, if_neg, if_true, if_false, true_and, and_true, not_true_eq_false, not_false_eq_true, false_and, and_false, Option.bind_some, zq_t, zq_f, zq0, zq1, zw_id, zn0_ne, zu_off]
  · simp (disch := first | assumption | omega | trivial) only [if_pos, if_neg, if_true, if_false, true_and, and_true, not_true_eq_false, not_false_eq_true, false_and, and_false, Option.bind_some, zq_t, zq_f, zq0, zq1, zw_id, zn0_ne, zu_off]
theorem zn_Sh (h : (S a).1 = 8) (ha : 0 < a) : ∃ S' I' R', zG (d + 2) 90 [.inr (.inr a)] (S, I, R, (a + 1, t)) = some (0, (S', I', R', (a + 2, t + 20))) ∧ zs_sh S' R' a ∧ (I' a 0 = 0 ∧ I' a 2 = 0) ∧ ∀ q, q < a → S' q = S q ∧ I' q = I q ∧ R' q = R q := by
  have e : a + 1 + 1 = a + 2 := by omega
  refine ⟨zn S (a + 1) 12 20, zn0 (zi_up (zi_up (zi_up I a 0 0) a 1 0) a 2 0) (a + 1), zi_up (zn0 R (a + 1)) a 3 (a + 1), ?_, ⟨ha, ?_, ?_, ?_⟩, ⟨?_, ?_⟩, fun q hq => ⟨?_, ?_, ?_⟩⟩
  · rw [zm_90]
    ((try simp only [zbd_conv]); simp (disch := first | assumption | omega | trivial) only [↓reduceIte, zbd_some, eq_self, Int.reduceEq, Int.reduceLT, Int.reduceLE, and_self, or_true, true_or, or_false, false_or, if_pos, if_neg, if_true, if_false, true_and, and_true, not_true_eq_false, not_false_eq_true, false_and, and_false, Option.bind_some, zq_t, zq_f, zq0, zq1, zw_id, h, zn_obj, zwr, zwq, zn_new, zn_ne, Int.reduceLE, Int.reduceToNat, e])
  · simp (disch := first | assumption | omega | trivial) only [if_pos, if_neg, if_true, if_false, true_and, and_true, not_true_eq_false, not_false_eq_true, false_and, and_false, Option.bind_some, zq_t, zq_f, zq0, zq1, zw_id, zn_ne, h]
  · simp (disch := first | assumption | omega | trivial) only [if_pos, if_neg, if_true, if_false, true_and, and_true, not_true_eq_false, not_false_eq_true, false_and, and_false, Option.bind_some, zq_t, zq_f, zq0, zq1, zw_id, zu_ne, zn0_ne, zu_eq]
  · simp (disch := first | assumption | omega | trivial) only [if_pos, if_neg, if_true, if_false, true_and, and_true, not_true_eq_false, not_false_eq_true, false_and, and_false, Option.bind_some, zq_t, zq_f, zq0, zq1, zw_id, zn_ne, zn_eq]
  · simp (disch := first | assumption | omega | trivial) only [if_pos, if_neg, if_true, if_false, true_and, and_true, not_true_eq_false, not_false_eq_true, false_and, and_false, Option.bind_some, zq_t, zq_f, zq0, zq1, zw_id, zn0_ne, zu_eq, zu_ne]
  · simp (disch := first | assumption | omega | trivial) only [if_pos, if_neg, if_true, if_false, true_and, and_true, not_true_eq_false, not_false_eq_true, false_and, and_false, Option.bind_some, zq_t, zq_f, zq0, zq1, zw_id, zn0_ne, zu_eq, zu_ne]
  · simp (disch := first | assumption | omega | trivial) only [if_pos, if_neg, if_true, if_false, true_and, and_true, not_true_eq_false, not_false_eq_true, false_and, and_false, Option.bind_some, zq_t, zq_f, zq0, zq1, zw_id, zn_ne]
  · simp (disch := first | assumption | omega | trivial) only [if_pos, if_neg, if_true, if_false, true_and, and_true, not_true_eq_false, not_false_eq_true, false_and, and_false, Option.bind_some, zq_t, zq_f, zq0, zq1, zw_id, zn0_ne, zu_off]
  · simp (disch := first | assumption | omega | trivial) only [if_pos, if_neg, if_true, if_false, true_and, and_true, not_true_eq_false, not_false_eq_true, false_and, and_false, Option.bind_some, zq_t, zq_f, zq0, zq1, zw_id, zn0_ne, zu_off]
theorem zn_Ta (h : (S a).1 = 9) (ha : 0 < a) : ∃ S' I' R', zG (d + 2) 91 [.inr (.inr a)] (S, I, R, (a + 1, t)) = some (0, (S', I', R', (a + 3, t + 408))) ∧ zs_ta S' R' a ∧ I' a 2 = 0 ∧ ∀ q, q < a → S' q = S q ∧ I' q = I q ∧ R' q = R q := by
  have e : a + 1 + 1 + 1 = a + 3 := by omega
  refine ⟨zn (zn S (a + 1) 12 400) (a + 1 + 1) 12 8, zi_up (zi_up (zi_up (zi_up (zn0 (zn0 I (a + 1)) (a + 1 + 1)) a 2 0) a 3 0) a 4 0) a 5 0, zi_up (zn0 (zi_up (zn0 R (a + 1)) a 0 (a + 1)) (a + 1 + 1)) a 1 (a + 1 + 1), ?_, ⟨ha, ?_, ?_, ?_, ?_, ?_⟩, ?_, fun q hq => ⟨?_, ?_, ?_⟩⟩
  · rw [zm_91]
    ((try simp only [zbd_conv]); simp (disch := first | assumption | omega | trivial) only [↓reduceIte, zbd_some, eq_self, Int.reduceEq, Int.reduceLT, Int.reduceLE, and_self, or_true, true_or, or_false, false_or, if_pos, if_neg, if_true, if_false, true_and, and_true, not_true_eq_false, not_false_eq_true, false_and, and_false, Option.bind_some, zq_t, zq_f, zq0, zq1, zw_id, h, zn_obj, zwr, zwq, zn_new, zn_ne, Int.reduceLE, Int.reduceToNat, e])
  · simp (disch := first | assumption | omega | trivial) only [if_pos, if_neg, if_true, if_false, true_and, and_true, not_true_eq_false, not_false_eq_true, false_and, and_false, Option.bind_some, zq_t, zq_f, zq0, zq1, zw_id, zn_ne, h]
  · simp (disch := first | assumption | omega | trivial) only [if_pos, if_neg, if_true, if_false, true_and, and_true, not_true_eq_false, not_false_eq_true, false_and, and_false, Option.bind_some, zq_t, zq_f, zq0, zq1, zw_id, zu_ne, zn0_ne, zu_eq]
  · simp (disch := first | assumption | omega | trivial) only [if_pos, if_neg, if_true, if_false, true_and, and_true, not_true_eq_false, not_false_eq_true, false_and, and_false, Option.bind_some, zq_t, zq_f, zq0, zq1, zw_id, zu_ne, zn0_ne, zu_eq]
    omega
  · simp (disch := first | assumption | omega | trivial) only [if_pos, if_neg, if_true, if_false, true_and, and_true, not_true_eq_false, not_false_eq_true, false_and, and_false, Option.bind_some, zq_t, zq_f, zq0, zq1, zw_id, zn_ne, zn_eq]
  · simp (disch := first | assumption | omega | trivial) only [if_pos, if_neg, if_true, if_false, true_and, and_true, not_true_eq_false, not_false_eq_true, false_and, and_false, Option.bind_some, zq_t, zq_f, zq0, zq1, zw_id, zn_ne, zn_eq]
  · simp (disch := first | assumption | omega | trivial) only [if_pos, if_neg, if_true, if_false, true_and, and_true, not_true_eq_false, not_false_eq_true, false_and, and_false, Option.bind_some, zq_t, zq_f, zq0, zq1, zw_id, zu_ne, zu_eq]
  · simp (disch := first | assumption | omega | trivial) only [if_pos, if_neg, if_true, if_false, true_and, and_true, not_true_eq_false, not_false_eq_true, false_and, and_false, Option.bind_some, zq_t, zq_f, zq0, zq1, zw_id, zn_ne]
  · simp (disch := first | assumption | omega | trivial) only [if_pos, if_neg, if_true, if_false, true_and, and_true, not_true_eq_false, not_false_eq_true, false_and, and_false, Option.bind_some, zq_t, zq_f, zq0, zq1, zw_id, zn0_ne, zu_off]
  · simp (disch := first | assumption | omega | trivial) only [if_pos, if_neg, if_true, if_false, true_and, and_true, not_true_eq_false, not_false_eq_true, false_and, and_false, Option.bind_some, zq_t, zq_f, zq0, zq1, zw_id, zn0_ne, zu_off]
end ZNw
