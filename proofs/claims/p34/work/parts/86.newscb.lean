/-! a new screen, whole -/
section ZNm
variable {d : Nat} {S S' : zS} {I I' R R' : zI} {a : Int} {t : Nat}
theorem zn_Sc (h : (S a).1 = 6) (ha : 0 < a) : ∃ S' I' R', zG (d + 4) 76 [.inr (.inr a)] (S, I, R, (a + 1, t)) = some (0, (S', I', R', (a + 119, t + 12 + 11 + 329 + 340 * 12))) ∧ zs_sc S' R' a ∧ ∀ q, q < a → S' q = S q ∧ I' q = I q ∧ R' q = R q := by
  have k2 : (zn S (a + 1) 16 12 a).1 = 6 := by rw [zn_ne (by omega), h]
  obtain ⟨S1, I1, R1, r1, l1, l5⟩ := zn_LL (d := d + 1) (S := zn (zn S (a + 1) 16 12) (a + 1 + 1) 4 0) (I := zn0 (zn0 I (a + 1)) (a + 1 + 1)) (R := zn0 (zi_up (zn0 R (a + 1)) a 0 (a + 1)) (a + 1 + 1)) (a := a + 1 + 1) (t := t + 12 + 11) (by rw [zn_eq rfl]) (by omega)
  have k4 : (zn (zn S (a + 1) 16 12) (a + 1 + 1) 4 0 (a + 1 + 1)).1 = 4 := by rw [zn_eq rfl]
  have s1 : (S1 a).1 = 6 := by rw [(l5 a (by omega)).1, zn_ne (by omega), k2]
  have s2 : S1 (a + 1) = (16, 12) := by rw [(l5 _ (by omega)).1, zn_ne (by omega), zn_eq rfl]
  have s3 : R1 a 0 = a + 1 := by rw [(l5 a (by omega)).2.2, zn0_ne (by omega), zu_eq ⟨rfl, rfl⟩]
  obtain ⟨S', I', R', q1, ⟨⟨v1, v2, v3⟩, v6⟩, q3⟩ := zn_sloop (d := d) ha 12 0 1019999 (t + 12 + 11 + 329) S1 I1 (zi_up R1 a 1 (a + 1 + 1)) (by omega) (by omega) (by omega) ⟨⟨s1, s2, by rw [zu_ne (by omega), s3]⟩, fun j j1 j2 => by omega⟩
  rw [show a + 11 + 9 * 0 = a + 1 + 1 + 9 by omega] at q1
  refine ⟨S', I', R', ?_, ⟨ha, v1, v3, v2, v6⟩, fun q hq => ?_⟩
  · rw [zm_76]
    ((try simp only [zbd_conv]); simp (disch := first | assumption | omega | trivial) only [↓reduceIte, zbd_some, eq_self, Int.reduceEq, Int.reduceLT, Int.reduceLE, and_self, or_true, true_or, or_false, false_or, if_pos, if_neg, if_true, if_false, true_and, and_true, not_true_eq_false, not_false_eq_true, false_and, and_false, Option.bind_some, zq_t, zq_f, zq0, zq1, zw_id, h, zn_obj, zwr, zwq, zn_new, k2, Int.reduceLE, Int.reduceToNat, k4, r1, s1])
    exact q1
  · obtain ⟨c1, c2, c3⟩ := q3 q hq
    exact ⟨by rw [c1, (l5 q (by omega)).1, zn_ne (by omega), zn_ne (by omega)], by rw [c2, (l5 q (by omega)).2.1, zn0_ne (by omega), zn0_ne (by omega)], by rw [c3, zu_off (by omega), (l5 q (by omega)).2.2, zn0_ne (by omega), zu_off (by omega), zn0_ne (by omega)]⟩
end ZNm
