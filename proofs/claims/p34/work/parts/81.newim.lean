/-! a new image -/
section ZNi
variable {d : Nat} {S S' : zS} {I I' R R' : zI} {T : Int × Nat} {a n x k c : Int} {kd sl t : Nat}
theorem zn_fr_congr (h : zs_fr S R a) (s : ∀ q, a ≤ q → q < a + 8 → S' q = S q) (r : ∀ q, a ≤ q → q < a + 8 → R' q = R q) : zs_fr S' R' a := by
  obtain ⟨h1, h2, h3, h4, h5, h6⟩ := h
  refine ⟨h1, by rw [s a (by omega) (by omega)]; exact h2, by rw [r a (by omega) (by omega)]; exact h3, by rw [r a (by omega) (by omega)]; exact h4, zn_li_congr h5 (fun q q1 q2 => s q (by omega) (by omega)) (r _ (by omega) (by omega)), zn_fo_congr h6 (fun q q1 q2 => s q (by omega) (by omega)) (r _ (by omega) (by omega))⟩
theorem zn_Im (h : (S a).1 = 3) (ha : 0 < a) : ∃ S' I' R', zG (d + 4) 32 [.inr (.inr a)] (S, I, R, (a + 1, t)) = some (0, (S', I', R', (a + 10, t + 4 + 3 + 492 + 4 + 24 + 4))) ∧ (zs_im S' R' a ∧ zs_fr S' R' (a + 1)) ∧ I' a 2 = 0 ∧ ∀ q, q < a → S' q = S q ∧ I' q = I q ∧ R' q = R q := by
  have e : a + 1 + 8 + 1 = a + 10 := by omega
  obtain ⟨S1, I1, R1, r1, l1, l2, l5⟩ := zn_Fr (d := d) (S := zn S (a + 1) 1 0) (I := zn0 I (a + 1)) (R := zn0 R (a + 1)) (a := a + 1) (t := t + 4) (by rw [zn_eq rfl]) (by omega)
  have k1 : (zn S (a + 1) 1 0 (a + 1)).1 = 1 := by rw [zn_eq rfl]
  have hs1 : (S1 a).1 = 3 := by rw [(l5 a (by omega)).1, zn_ne (by omega), h]
  have k7 : (zn S1 (a + 1 + 8) 7 0 (a + 1 + 8)).1 = 7 := by rw [zn_eq rfl]
  have hs2 : (zn S1 (a + 1 + 8) 7 0 a).1 = 3 := by rw [zn_ne (by omega), hs1]
  obtain ⟨I2, hI2⟩ : ∃ I2, I2 = zi_up (zi_up (zi_up (zi_up (zn0 I1 (a + 1 + 8)) (a + 1 + 8) 0 20) (a + 1 + 8) 1 4) (a + 1 + 8) 2 2) (a + 1 + 8) 3 2 := ⟨_, rfl⟩
  have se := zn_Se (d := d + 1) (S := zn S1 (a + 1 + 8) 7 0) (I := zn0 I1 (a + 1 + 8)) (R := zn0 (zi_up R1 a 0 (a + 1)) (a + 1 + 8)) (T := (a + 10, t + 4 + 3 + 492 + 4 + 24 + 4)) (a := a + 1 + 8) k7
  rw [← hI2] at se
  refine ⟨zn S1 (a + 1 + 8) 7 0, zi_up I2 a 2 0, zi_up (zn0 (zi_up R1 a 0 (a + 1)) (a + 1 + 8)) a 1 (a + 1 + 8), ?_, ⟨⟨ha, hs2, ?_, ?_, by omega, ?_⟩, ?_⟩, zu_eq ⟨rfl, rfl⟩, fun q hq => ⟨?_, ?_, ?_⟩⟩
  · rw [zm_32]
    ((try simp only [zbd_conv]); simp (disch := first | assumption | omega | trivial) only [↓reduceIte, zbd_some, eq_self, Int.reduceEq, Int.reduceLT, Int.reduceLE, and_self, or_true, true_or, or_false, false_or, if_pos, if_neg, if_true, if_false, true_and, and_true, not_true_eq_false, not_false_eq_true, false_and, and_false, Option.bind_some, zq_t, zq_f, zq0, zq1, zw_id, h, zn_obj, zwr, zwq, zn_new, k1, r1, hs1, k7, hs2, se, e])
  · rw [zu_ne (by omega), zn0_ne (by omega), zu_eq ⟨rfl, rfl⟩]
  · rw [zu_eq ⟨rfl, rfl⟩]; omega
  · rw [show a + 9 = a + 1 + 8 by omega]; exact k7
  · exact zn_fr_congr l1 (fun q q1 q2 => zn_ne (by omega)) (fun q q1 q2 => by rw [zu_off (by omega), zn0_ne (by omega), zu_off (by omega)])
  · rw [zn_ne (by omega), (l5 q (by omega)).1, zn_ne (by omega)]
  · rw [zu_off (by omega), hI2, zu_off (by omega), zu_off (by omega), zu_off (by omega), zu_off (by omega), zn0_ne (by omega), (l5 q (by omega)).2.1, zn0_ne (by omega)]
  · rw [zu_off (by omega), zn0_ne (by omega), zu_off (by omega), (l5 q (by omega)).2.2, zn0_ne (by omega)]
end ZNi
