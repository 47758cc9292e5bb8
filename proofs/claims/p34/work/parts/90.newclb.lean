/-! a new object of the class: the run -/
section ZNs
variable {d : Nat} {S : zS} {I R : zI} {X k : Int} {t : Nat}
theorem zn_C1 (h : (S X).1 = 10) (hX : 0 < X) : ∃ S' I' R', zG (d + 5) 98 [.inr (.inr X)] (S, I, R, (X + 1, t)) = zi_run zt_98 (zG (d + 4)) 1019999 37 [some (.inr (.inr X)), none] [] (S', I', R', (X + 135, t + 6 + 408 + 4 + 3 + 16 + 527 * 16)) ∧ zn_p1 S' I' R' X ∧ ∀ q, q < X → S' q = S q ∧ I' q = I q ∧ R' q = R q := by
  obtain ⟨S1, I1, R1, r1, l1, l2, l5⟩ := zn_Ta (d := d + 2) (S := zn S (X + 1) 9 0) (I := zn0 I (X + 1)) (R := zn0 R (X + 1)) (a := X + 1) (t := t + 6) (by rw [zn_eq rfl]) (by omega)
  have k1 : (zn S (X + 1) 9 0 (X + 1)).1 = 9 := by rw [zn_eq rfl]
  have s1 : (S1 X).1 = 10 := by rw [(l5 X (by omega)).1, zn_ne (by omega), h]
  have k2 : (zn S1 (X + 4) 7 0 (X + 4)).1 = 7 := by rw [zn_eq rfl]
  have s2 : (zn S1 (X + 4) 7 0 X).1 = 10 := by rw [zn_ne (by omega), s1]
  obtain ⟨I2, hI2⟩ : ∃ I2, I2 = zi_up (zi_up (zi_up (zi_up (zn0 I1 (X + 4)) (X + 4) 0 20) (X + 4) 1 4) (X + 4) 2 2) (X + 4) 3 2 := ⟨_, rfl⟩
  have se := zn_Se (d := d + 2) (S := zn S1 (X + 4) 7 0) (I := zn0 I1 (X + 4)) (R := zn0 (zi_up R1 X 0 (X + 1)) (X + 4)) (T := (X + 5, t + 6 + 408 + 4)) (a := X + 4) k2
  rw [← hI2] at se
  obtain ⟨S3, I3, R3, r3, m1, ⟨m2, m3⟩, m4, m5⟩ := zn_H (d := d) (S := zn (zn S1 (X + 4) 7 0) (X + 5) 2 0) (I := zn0 I2 (X + 5)) (R := zn0 (zi_up (zn0 (zi_up R1 X 0 (X + 1)) (X + 4)) X 1 (X + 4)) (X + 5)) (a := X + 5) (t := t + 6 + 408 + 4 + 3) (by rw [zn_eq rfl]) (by omega)
  have k3 : (zn (zn S1 (X + 4) 7 0) (X + 5) 2 0 (X + 5)).1 = 2 := by rw [zn_eq rfl]
  have s3 : (S3 X).1 = 10 := by rw [(m5 X (by omega)).1, zn_ne (by omega), s2]
  have e1 : X + 1 + 1 = X + 2 := by omega
  have e2 : X + 1 + 3 = X + 4 := by omega
  have e3 : X + 4 + 1 = X + 5 := by omega
  have e4 : X + 5 + 130 = X + 135 := by omega
  rw [e2] at r1
  rw [e4] at r3
  have sq : ∀ q, q < X + 4 → S3 q = S1 q := fun q hq => by rw [(m5 q (by omega)).1, zn_ne (by omega), zn_ne (by omega)]
  have iq : ∀ q, q < X + 5 → I3 q = I2 q := fun q hq => by rw [(m5 q (by omega)).2.1, zn0_ne (by omega)]
  have iq2 : ∀ q, q < X + 4 → I2 q = I1 q := fun q hq => by rw [hI2, zu_off (by omega), zu_off (by omega), zu_off (by omega), zu_off (by omega), zn0_ne (by omega)]
  have rq : ∀ q, q < X + 5 → R3 q = zi_up (zn0 (zi_up R1 X 0 (X + 1)) (X + 4)) X 1 (X + 4) q := fun q hq => by rw [(m5 q (by omega)).2.2, zn0_ne (by omega)]
  have rq2 : ∀ q, q < X + 4 → q ≠ X → R3 q = R1 q := fun q hq hx => by rw [rq q (by omega), zu_off (by omega), zn0_ne (by omega), zu_off (by omega)]
  refine ⟨S3, I3, zi_up R3 X 2 (X + 5), ?_, ⟨⟨⟨hX, s3⟩, ?_, ?_, zu_eq ⟨rfl, rfl⟩⟩, zn_ta_congr l1 (fun q q1 q2 => sq q (by omega)) (by rw [zu_off (by omega), rq2 _ (by omega) (by omega)]), ⟨by omega, ?_⟩, zn_hi_congr m1 (fun q _ _ => rfl) (zu_off (by omega)), fun k k1 k2 => ?_, ?_, ⟨?_, ?_, ?_, ?_⟩, m2, m3⟩, fun q hq => ⟨?_, ?_, ?_⟩⟩
  · rw [zm_98]
    ((try simp only [zbd_conv]); simp (disch := first | assumption | omega | trivial) only [↓reduceIte, zbd_some, eq_self, Int.reduceEq, Int.reduceLT, Int.reduceLE, and_self, or_true, true_or, or_false, false_or, if_pos, if_neg, if_true, if_false, true_and, and_true, not_true_eq_false, not_false_eq_true, false_and, and_false, Option.bind_some, zq_t, zq_f, zq0, zq1, zw_id, h, zn_obj, zwr, zwq, zn_new, k1, r1, s1, k2, se, s2, k3, r3, s3, e3])
  · rw [zu_ne (by omega), rq X (by omega), zu_ne (by omega), zn0_ne (by omega), zu_eq ⟨rfl, rfl⟩]
  · rw [zu_ne (by omega), rq X (by omega), zu_eq ⟨rfl, rfl⟩]
  · rw [(m5 _ (by omega)).1, zn_ne (by omega), zn_eq rfl]
  · obtain ⟨g1, g2⟩ := m4 k k1 k2
    rw [zu_off (by omega), show X + 6 = X + 5 + 1 by omega, g1, show X + 7 + 8 * k = X + 5 + 2 + 8 * k by omega]
    exact ⟨rfl, zn_fr_congr g2 (fun q _ _ => rfl) (fun q q1 q2 => zu_off (by omega))⟩
  · rw [iq _ (by omega), iq2 _ (by omega), l2]
  · rw [iq _ (by omega), hI2, zu_ne (by omega), zu_ne (by omega), zu_ne (by omega), zu_eq ⟨rfl, rfl⟩]
  · rw [iq _ (by omega), hI2, zu_ne (by omega), zu_ne (by omega), zu_eq ⟨rfl, rfl⟩]
  · rw [iq _ (by omega), hI2, zu_ne (by omega), zu_eq ⟨rfl, rfl⟩]
  · rw [iq _ (by omega), hI2, zu_eq ⟨rfl, rfl⟩]
  · rw [sq q (by omega), (l5 q (by omega)).1, zn_ne (by omega)]
  · rw [iq q (by omega), iq2 q (by omega), (l5 q (by omega)).2.1, zn0_ne (by omega)]
  · rw [zu_off (by omega), rq2 q (by omega) (by omega), (l5 q (by omega)).2.2, zn0_ne (by omega)]
theorem zn_C2 {w : Nat} (hp : zn_p1 S I R X) : ∃ S' I' R', zi_run zt_98 (zG (d + 4)) (w + 1) 37 [some (.inr (.inr X)), none] [] (S, I, R, (X + 135, t)) = zi_run zt_98 (zG (d + 4)) w 75 [some (.inr (.inr X)), none] [] (S', I', R', (X + 264, t + 2 + 12 + 11 + 329 + 340 * 12 + 2 + 4 + 4 + 3 + 492 + 4 + 24)) ∧ zn_p2 S' I' R' X ∧ ∀ q, q < X → S' q = S q ∧ I' q = I q ∧ R' q = R q := by
  have hX := hp.1.1.1
  have h := hp.1.1.2
  obtain ⟨S1, I1, R1, r1, l1, l5⟩ := zn_Sc (d := d) (S := zn S (X + 135) 6 0) (I := zn0 I (X + 135)) (R := zn0 R (X + 135)) (a := X + 135) (t := t + 2) (by rw [zn_eq rfl]) (by omega)
  have k1 : (zn S (X + 135) 6 0 (X + 135)).1 = 6 := by rw [zn_eq rfl]
  have s1 : (S1 X).1 = 10 := by rw [(l5 X (by omega)).1, zn_ne (by omega), h]
  have s2 : (zn S1 (X + 254) 15 2 X).1 = 10 := by rw [zn_ne (by omega), s1]
  have s3 : (zn (zn S1 (X + 254) 15 2) (X + 255) 17 4 X).1 = 10 := by rw [zn_ne (by omega), s2]
  obtain ⟨S3, I3, R3, r3, m1, m2, m5⟩ := zn_Fr (d := d + 1) (S := zn (zn (zn S1 (X + 254) 15 2) (X + 255) 17 4) (X + 256) 1 0) (I := zn0 (zn0 (zn0 I1 (X + 254)) (X + 255)) (X + 256)) (R := zn0 (zi_up (zn0 (zi_up (zn0 (zi_up R1 X 3 (X + 135)) (X + 254)) X 4 (X + 254)) (X + 255)) X 5 (X + 255)) (X + 256)) (a := X + 256) (t := t + 2 + 12 + 11 + 329 + 340 * 12 + 2 + 4 + 4) (by rw [zn_eq rfl]) (by omega)
  have k3 : (zn (zn (zn S1 (X + 254) 15 2) (X + 255) 17 4) (X + 256) 1 0 (X + 256)).1 = 1 := by rw [zn_eq rfl]
  have s4 : (S3 X).1 = 10 := by rw [(m5 X (by omega)).1, zn_ne (by omega), s3]
  have e1 : X + 135 + 119 = X + 254 := by omega
  have e2 : X + 254 + 1 = X + 255 := by omega
  have e3 : X + 255 + 1 = X + 256 := by omega
  have e4 : X + 256 + 8 = X + 264 := by omega
  rw [e1] at r1
  rw [e4] at r3
  have sq : ∀ q, q < X + 254 → S3 q = S1 q := fun q hq => by rw [(m5 q (by omega)).1, zn_ne (by omega), zn_ne (by omega), zn_ne (by omega)]
  have iq : ∀ q, q < X + 254 → I3 q = I1 q := fun q hq => by rw [(m5 q (by omega)).2.1, zn0_ne (by omega), zn0_ne (by omega), zn0_ne (by omega)]
  have rq : ∀ q, q < X + 256 → R3 q = zi_up (zn0 (zi_up (zn0 (zi_up R1 X 3 (X + 135)) (X + 254)) X 4 (X + 254)) (X + 255)) X 5 (X + 255) q := fun q hq => by rw [(m5 q (by omega)).2.2, zn0_ne (by omega)]
  have rq2 : ∀ q, q < X + 254 → q ≠ X → R3 q = R1 q := fun q hq hx => by rw [rq q (by omega), zu_off (by omega), zn0_ne (by omega), zu_off (by omega), zn0_ne (by omega), zu_off (by omega)]
  have rq3 : ∀ j, j < 3 → R3 X j = R1 X j := fun j hj => by rw [rq X (by omega), zu_ne (by omega), zn0_ne (by omega), zu_ne (by omega), zn0_ne (by omega), zu_ne (by omega)]
  refine ⟨S3, I3, zi_up R3 X 6 (X + 256), ?_, ⟨zn_p1_congr hp (fun q q1 q2 => ?_) (fun q q1 q2 => ?_) (fun q q1 q2 => ?_) (fun j j1 => ?_), ⟨?_, ?_, ?_, zu_eq ⟨rfl, rfl⟩⟩, zn_sc_congr l1 (fun q q1 q2 => sq q (by omega)) (fun q q1 q2 => ?_), ?_, ?_, zn_fr_congr m1 (fun q _ _ => rfl) (fun q q1 q2 => zu_off (by omega)), m2⟩, fun q hq => ⟨?_, ?_, ?_⟩⟩
  · rw [zk_98_37]
    ((try simp only [zbd_conv]); simp (disch := first | assumption | omega | trivial) only [↓reduceIte, zbd_some, eq_self, Int.reduceEq, Int.reduceLT, Int.reduceLE, and_self, or_true, true_or, or_false, false_or, if_pos, if_neg, if_true, if_false, true_and, and_true, not_true_eq_false, not_false_eq_true, false_and, and_false, Option.bind_some, zq_t, zq_f, zq0, zq1, zw_id, h, zwr, zwq, zn_new, k1, r1, s1, s2, s3, k3, r3, s4, e2, e3, Int.reduceLE, Int.reduceToNat])
  · rw [sq q (by omega), (l5 q (by omega)).1, zn_ne (by omega)]
  · rw [iq q (by omega), (l5 q (by omega)).2.1, zn0_ne (by omega)]
  · rw [zu_off (by omega), rq2 q (by omega) (by omega), (l5 q (by omega)).2.2, zn0_ne (by omega)]
  · rw [zu_ne (by omega), rq3 j (by omega), (l5 X (by omega)).2.2, zn0_ne (by omega)]
  · rw [zu_ne (by omega), rq X (by omega), zu_ne (by omega), zn0_ne (by omega), zu_ne (by omega), zn0_ne (by omega), zu_eq ⟨rfl, rfl⟩]
  · rw [zu_ne (by omega), rq X (by omega), zu_ne (by omega), zn0_ne (by omega), zu_eq ⟨rfl, rfl⟩]
  · rw [zu_ne (by omega), rq X (by omega), zu_eq ⟨rfl, rfl⟩]
  · rw [zu_off (by omega), rq2 q (by omega) (by omega)]
  · rw [(m5 _ (by omega)).1, zn_ne (by omega), zn_ne (by omega), zn_eq rfl]
  · rw [(m5 _ (by omega)).1, zn_ne (by omega), zn_eq rfl]
  · rw [sq q (by omega), (l5 q (by omega)).1, zn_ne (by omega)]
  · rw [iq q (by omega), (l5 q (by omega)).2.1, zn0_ne (by omega)]
  · rw [zu_off (by omega), rq2 q (by omega) (by omega), (l5 q (by omega)).2.2, zn0_ne (by omega)]
theorem zn_C3 {w : Nat} (hp : zn_p2 S I R X) : ∃ S' I' R', zi_run zt_98 (zG (d + 4)) (w + 1) 75 [some (.inr (.inr X)), none] [] (S, I, R, (X + 264, t)) = zi_run zt_98 (zG (d + 4)) w 98 [some (.inr (.inr X)), some (.inl 0)] [] (S', I', R', (X + 272, t + 4 + 3 + 492 + 4 + 24)) ∧ zn_p3 S' I' R' X ∧ ∀ q, q < X → S' q = S q ∧ I' q = I q ∧ R' q = R q := by
  have hX := hp.1.1.1.1
  have h := hp.1.1.1.2
  obtain ⟨S3, I3, R3, r3, m1, m2, m5⟩ := zn_Fr (d := d + 1) (S := zn S (X + 264) 1 0) (I := zn0 I (X + 264)) (R := zn0 R (X + 264)) (a := X + 264) (t := t + 4) (by rw [zn_eq rfl]) (by omega)
  have k3 : (zn S (X + 264) 1 0 (X + 264)).1 = 1 := by rw [zn_eq rfl]
  have s4 : (S3 X).1 = 10 := by rw [(m5 X (by omega)).1, zn_ne (by omega), h]
  have e4 : X + 264 + 8 = X + 272 := by omega
  rw [e4] at r3
  have sq : ∀ q, q < X + 264 → S3 q = S q := fun q hq => by rw [(m5 q (by omega)).1, zn_ne (by omega)]
  have iq : ∀ q, q < X + 264 → I3 q = I q := fun q hq => by rw [(m5 q (by omega)).2.1, zn0_ne (by omega)]
  have rq : ∀ q, q < X + 264 → R3 q = R q := fun q hq => by rw [(m5 q (by omega)).2.2, zn0_ne (by omega)]
  refine ⟨S3, zi_up (zi_up I3 X 8 0) X 9 0, zi_up R3 X 7 (X + 264), ?_, ⟨zn_p2_congr hp (fun q q1 q2 => sq q (by omega)) (fun q q1 q2 => ?_) (fun q q1 q2 q3 q4 => ?_) (fun j j1 => ?_), zu_eq ⟨rfl, rfl⟩, zn_fr_congr m1 (fun q _ _ => rfl) (fun q q1 q2 => zu_off (by omega)), ?_, zu_eq ⟨rfl, rfl⟩⟩, fun q hq => ⟨sq q (by omega), ?_, ?_⟩⟩
  · rw [zk_98_75]
    ((try simp only [zbd_conv]); simp (disch := first | assumption | omega | trivial) only [↓reduceIte, zbd_some, eq_self, Int.reduceEq, Int.reduceLT, Int.reduceLE, and_self, or_true, true_or, or_false, false_or, if_pos, if_neg, if_true, if_false, true_and, and_true, not_true_eq_false, not_false_eq_true, false_and, and_false, Option.bind_some, zq_t, zq_f, zq0, zq1, zw_id, h, zwr, zwq, zn_new, k3, r3, s4])
  · rw [zu_off (by omega), zu_off (by omega), iq q (by omega)]
  · rw [zu_off (by omega), rq q (by omega)]
  · rw [zu_ne (by omega), rq X (by omega)]
  · rw [zu_ne (by omega), zu_eq ⟨rfl, rfl⟩]
  · rw [zu_off (by omega), zu_off (by omega), iq q (by omega)]
  · rw [zu_off (by omega), rq q (by omega)]
end ZNs
