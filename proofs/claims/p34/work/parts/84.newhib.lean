/-! a new history, whole */ -/
section ZNj
variable {d : Nat} {S S' : zS} {I I' R R' : zI} {a : Int} {t : Nat}
theorem zn_H (h : (S a).1 = 2) (ha : 0 < a) : ∃ S' I' R', zG (d + 4) 25 [.inr (.inr a)] (S, I, R, (a + 1, t)) = some (0, (S', I', R', (a + 130, t + 16 + 527 * 16))) ∧ zs_hi S' R' a ∧ (I' a 1 = 0 ∧ I' a 2 = 0) ∧ (∀ j, 0 ≤ j → j < 16 → R' (a + 1) j = a + 2 + 8 * j ∧ zs_fr S' R' (a + 2 + 8 * j)) ∧ ∀ q, q < a → S' q = S q ∧ I' q = I q ∧ R' q = R q := by
  have k2 : (zn S (a + 1) 14 16 a).1 = 2 := by rw [zn_ne (by omega), h]
  obtain ⟨S', I', R', q1, ⟨⟨v1, v2, v3, v4, v5⟩, v6⟩, q3⟩ := zn_hloop (d := d) ha 16 0 1019999 (t + 16) (zn S (a + 1) 14 16) (zi_up (zi_up (zn0 I (a + 1)) a 1 0) a 2 0) (zi_up (zn0 R (a + 1)) a 0 (a + 1)) (by omega) (by omega) (by omega) ⟨⟨k2, zn_eq rfl, zu_eq ⟨rfl, rfl⟩, by rw [zu_ne (by omega), zu_eq ⟨rfl, rfl⟩], zu_eq ⟨rfl, rfl⟩⟩, fun j j1 j2 => by omega⟩
  rw [show a + 2 + 8 * 0 = a + 1 + 1 by omega] at q1
  refine ⟨S', I', R', ?_, ⟨ha, v1, v3, v2⟩, ⟨v4, v5⟩, v6, fun q hq => ?_⟩
  · rw [zm_25]
    ((try simp only [zbd_conv]); simp (disch := first | assumption | omega | trivial) only [↓reduceIte, zbd_some, eq_self, Int.reduceEq, Int.reduceLT, Int.reduceLE, and_self, or_true, true_or, or_false, false_or, if_pos, if_neg, if_true, if_false, true_and, and_true, not_true_eq_false, not_false_eq_true, false_and, and_false, Option.bind_some, zq_t, zq_f, zq0, zq1, zw_id, h, zn_obj, zwr, zwq, zn_new, k2, Int.reduceLE, Int.reduceToNat])
    exact q1
  · obtain ⟨c1, c2, c3⟩ := q3 q hq
    exact ⟨by rw [c1, zn_ne (by omega)], by rw [c2, zu_off (by omega), zu_off (by omega), zn0_ne (by omega)], by rw [c3, zu_off (by omega), zn0_ne (by omega)]⟩
end ZNj
