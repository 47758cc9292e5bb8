/-! a new frame -/
section ZNf
variable {d : Nat} {S S' : zS} {I I' R R' : zI} {T : Int × Nat} {a n x k c : Int} {kd sl t : Nat}
theorem zn_li_congr (h : zs_li S R a) (s : ∀ q, a ≤ q → q < a + 3 → S' q = S q) (r : R' a = R a) : zs_li S' R' a := by
  unfold zs_li at *
  rw [s a (by omega) (by omega), s (a + 1) (by omega) (by omega), s (a + 2) (by omega) (by omega), r]
  exact h
theorem zn_fo_congr (h : zs_fo S R a) (s : ∀ q, a ≤ q → q < a + 4 → S' q = S q) (r : R' a = R a) : zs_fo S' R' a := by
  unfold zs_fo at *
  rw [s a (by omega) (by omega), s (a + 1) (by omega) (by omega), s (a + 2) (by omega) (by omega), s (a + 3) (by omega) (by omega), r]
  exact h
theorem zn_Fr (h : (S a).1 = 1) (ha : 0 < a) : ∃ S' I' R', zG (d + 3) 19 [.inr (.inr a)] (S, I, R, (a + 1, t)) = some (0, (S', I', R', (a + 8, t + 3 + 492 + 4 + 24))) ∧ zs_fr S' R' a ∧ zv_rep I' a zt_zero.1 ∧ ∀ q, q < a → S' q = S q ∧ I' q = I q ∧ R' q = R q := by
  have e : a + 1 + 3 + 4 = a + 8 := by omega
  obtain ⟨S1, I1, R1, r1, l1, ⟨l2, l3, l4⟩, l5⟩ := zn_Li (d := d) (S := zn S (a + 1) 5 0) (I := zn0 I (a + 1)) (R := zn0 R (a + 1)) (a := a + 1) (t := t + 3) (by rw [zn_eq rfl]) (by omega)
  have hs1 : (S1 a).1 = 1 := by rw [(l5 a (by omega)).1, zn_ne (by omega), h]
  obtain ⟨S2, I2, R2, r2, f1, f2, f3⟩ := zn_F (d := d) (S := zn S1 (a + 1 + 3) 0 0) (I := zn0 I1 (a + 1 + 3)) (R := zn0 (zi_up R1 a 0 (a + 1)) (a + 1 + 3)) (a := a + 1 + 3) (t := t + 3 + 492 + 4) (by rw [zn_eq rfl]) (by omega)
  have k5 : (zn S (a + 1) 5 0 (a + 1)).1 = 5 := by rw [zn_eq rfl]
  have k0 : (zn S1 (a + 1 + 3) 0 0 (a + 1 + 3)).1 = 0 := by rw [zn_eq rfl]
  have hs2 : (S2 a).1 = 1 := by rw [(f3 a (by omega)).1, zn_ne (by omega), hs1]
  have sq : ∀ q, q < a + 1 + 3 → S2 q = S1 q := fun q hq => by rw [(f3 q hq).1, zn_ne (by omega)]
  have iq : ∀ q, q < a + 1 + 3 → I2 q = I1 q := fun q hq => by rw [(f3 q hq).2.1, zn0_ne (by omega)]
  have rq : ∀ q, q < a + 1 + 3 → R2 q = zi_up R1 a 0 (a + 1) q := fun q hq => by rw [(f3 q hq).2.2, zn0_ne (by omega)]
  have z0 : zt_zero.1 0 = 1 := (show (if (0 : Int) = 0 then (1 : Int) else 0) = 1 from if_pos rfl)
  have zj : ∀ j, j ≠ 0 → zt_zero.1 j = 0 := fun j hj => if_neg hj
  refine ⟨S2, zi_up (zi_up I2 a 2 0) a 3 0, zi_up R2 a 1 (a + 1 + 3), ?_, ⟨ha, hs2, ?_, ?_, ?_, ?_⟩, ⟨?_, fun l q1 q2 => ?_, fun l i q1 q2 i1 i2 => ?_, ?_, fun k q1 q2 => ?_, ?_, ?_⟩, fun q hq => ⟨?_, ?_, ?_⟩⟩
  · rw [zm_19]
    ((try simp only [zbd_conv]); simp (disch := first | assumption | omega | trivial) only [↓reduceIte, zbd_some, eq_self, Int.reduceEq, Int.reduceLT, Int.reduceLE, and_self, or_true, true_or, or_false, false_or, if_pos, if_neg, if_true, if_false, true_and, and_true, not_true_eq_false, not_false_eq_true, false_and, and_false, Option.bind_some, zq_t, zq_f, zq0, zq1, zw_id, h, zn_obj, zwr, zwq, zn_new, k5, r1, hs1, k0, r2, hs2, e])
  · rw [zu_ne (by omega), rq a (by omega), zu_eq ⟨rfl, rfl⟩]
  · rw [zu_eq ⟨rfl, rfl⟩]; omega
  · exact zn_li_congr l1 (fun q q1 q2 => sq q (by omega)) (by rw [zu_off (by omega), rq _ (by omega), zu_off (by omega)])
  · rw [show a + 4 = a + 1 + 3 by omega]
    exact zn_fo_congr f1 (fun q q1 q2 => rfl) (by rw [zu_off (by omega)])
  · rw [zu_off (by omega), zu_off (by omega), iq _ (by omega), l2, z0]
  · rw [z0] at q2
    rw [zu_off (by omega), zu_off (by omega), iq _ (by omega), show a + 2 = a + 1 + 1 by omega, l3, zj _ (by omega)]
  · rw [zj _ (by omega)] at i2; omega
  · rw [zu_off (by omega), zu_off (by omega), show a + 4 = a + 1 + 3 by omega, f2, zj _ (by omega)]
  · rw [zj _ (by omega)] at q2; omega
  · rw [zu_ne (by omega), zu_eq ⟨rfl, rfl⟩, zj _ (by omega)]
  · rw [zu_eq ⟨rfl, rfl⟩, zj _ (by omega)]
  · rw [sq q (by omega), (l5 q (by omega)).1, zn_ne (by omega)]
  · rw [zu_off (by omega), zu_off (by omega), iq q (by omega), (l5 q (by omega)).2.1, zn0_ne (by omega)]
  · rw [zu_off (by omega), rq q (by omega), zu_off (by omega), (l5 q (by omega)).2.2, zn0_ne (by omega)]
end ZNf
