/-! a new object of the class: images, sheets, all laid -/
section ZNt
variable {d : Nat} {S : zS} {I R : zI} {X k : Int} {t w : Nat}
theorem zn_C4 (hp : zn_p4 S I R X k) (hk : 0 ≤ k ∧ k < 2) : ∃ S' I' R', zi_run zt_98 (zG (d + 4)) (w + 1) 98 [some (.inr (.inr X)), some (.inl k)] [] (S, I, R, (X + 272 + 10 * k, t)) = zi_run zt_98 (zG (d + 4)) w 98 [some (.inr (.inr X)), some (.inl (k + 1))] [] (S', I', R', (X + 272 + 10 * (k + 1), t + 3 + 4 + 3 + 492 + 4 + 24 + 4)) ∧ zn_p4 S' I' R' X (k + 1) ∧ ∀ q, q < X → S' q = S q ∧ I' q = I q ∧ R' q = R q := by
  obtain ⟨⟨⟨⟨⟨⟨hX, h⟩, -⟩, -⟩, ⟨-, h4, -⟩, -, h15, -⟩, -⟩, hj⟩ := id hp
  obtain ⟨b, hb⟩ : ∃ b, X + 272 + 10 * k = b := ⟨_, rfl⟩
  obtain ⟨S1, I1, R1, r1, ⟨l1, l2⟩, l3, l5⟩ := zn_Im (d := d) (S := zn S b 3 0) (I := zn0 I b) (R := zn0 R b) (a := b) (t := t + 3) (by rw [zn_eq rfl]) (by omega)
  have k1 : (zn S b 3 0 b).1 = 3 := by rw [zn_eq rfl]
  have sq : ∀ q, q < b → S1 q = S q := fun q hq => by rw [(l5 q hq).1, zn_ne (by omega)]
  have iq : ∀ q, q < b → I1 q = I q := fun q hq => by rw [(l5 q hq).2.1, zn0_ne (by omega)]
  have rq : ∀ q, q < b → R1 q = R q := fun q hq => by rw [(l5 q hq).2.2, zn0_ne (by omega)]
  have s1b : (S1 b).1 = 3 := l1.2.1
  have s1a : S1 (X + 254) = (15, 2) := by rw [sq _ (by omega), h15]
  have p4 := zn_p4_congr (S' := S1) (I' := I1) (R' := zi_up R1 (X + 254) k b) hp (fun q q1 q2 => sq q (by omega)) (fun q q1 q2 => iq q (by omega)) (fun q q1 q2 q3 q4 => by rw [zu_off q3, rq q (by omega)]) (fun j j1 => by rw [zu_ne (by omega), rq _ (by omega)]) hk.1
  refine ⟨S1, I1, zi_up R1 (X + 254) k b, ?_, ⟨p4.1, fun j j1 j2 => ?_⟩, fun q hq => ⟨sq q (by omega), iq q (by omega), by rw [zu_off (by omega), rq q (by omega)]⟩⟩
  · rw [show X + 272 + 10 * (k + 1) = b + 10 by omega, hb, zk_98_98]
    ((try simp only [zbd_conv]); simp (disch := first | assumption | omega | trivial) only [↓reduceIte, zbd_some, eq_self, Int.reduceEq, Int.reduceLT, Int.reduceLE, and_self, or_true, true_or, or_false, false_or, if_pos, if_neg, if_true, if_false, true_and, and_true, not_true_eq_false, not_false_eq_true, false_and, and_false, Option.bind_some, zq_t, zq_f, zq0, zq1, zw_id, h, h4, h15, zn_new, k1, r1, s1a, s1b, zwq])
  · by_cases g : j = k
    · rw [g, zu_eq ⟨rfl, rfl⟩, hb, show X + 273 + 10 * k = b + 1 by omega]
      exact ⟨rfl, zn_im_congr l1 (fun q _ _ => rfl) (zu_off (by omega)), zn_fr_congr l2 (fun q _ _ => rfl) (fun q q1 q2 => zu_off (by omega)), l3⟩
    · exact p4.2 j j1 (by omega)
theorem zn_C5 (hp : zn_p5 S I R X k) (hk : 0 ≤ k ∧ k < 4) : ∃ S' I' R', zi_run zt_98 (zG (d + 4)) (w + 1) 128 [some (.inr (.inr X)), some (.inl k)] [] (S, I, R, (X + 292 + 2 * k, t)) = zi_run zt_98 (zG (d + 4)) w 128 [some (.inr (.inr X)), some (.inl (k + 1))] [] (S', I', R', (X + 292 + 2 * (k + 1), t + 4 + 20)) ∧ zn_p5 S' I' R' X (k + 1) ∧ ∀ q, q < X → S' q = S q ∧ I' q = I q ∧ R' q = R q := by
  obtain ⟨⟨⟨⟨⟨⟨⟨hX, h⟩, -⟩, -⟩, ⟨-, -, h5, -⟩, -, -, h17, -⟩, -⟩, -⟩, hj⟩ := id hp
  obtain ⟨b, hb⟩ : ∃ b, X + 292 + 2 * k = b := ⟨_, rfl⟩
  obtain ⟨S1, I1, R1, r1, l1, ⟨l2, l3⟩, l5⟩ := zn_Sh (d := d + 2) (S := zn S b 8 0) (I := zn0 I b) (R := zn0 R b) (a := b) (t := t + 4) (by rw [zn_eq rfl]) (by omega)
  have k1 : (zn S b 8 0 b).1 = 8 := by rw [zn_eq rfl]
  have sq : ∀ q, q < b → S1 q = S q := fun q hq => by rw [(l5 q hq).1, zn_ne (by omega)]
  have iq : ∀ q, q < b → I1 q = I q := fun q hq => by rw [(l5 q hq).2.1, zn0_ne (by omega)]
  have rq : ∀ q, q < b → R1 q = R q := fun q hq => by rw [(l5 q hq).2.2, zn0_ne (by omega)]
  have s1b : (S1 b).1 = 8 := l1.2.1
  have s1a : S1 (X + 255) = (17, 4) := by rw [sq _ (by omega), h17]
  have p5 := zn_p5_congr (S' := S1) (I' := I1) (R' := zi_up R1 (X + 255) k b) hp (fun q q1 q2 => sq q (by omega)) (fun q q1 q2 => iq q (by omega)) (fun q q1 q2 q4 => by rw [zu_off q4, rq q (by omega)]) (fun j j1 => by rw [zu_ne (by omega), rq _ (by omega)]) hk.1
  refine ⟨S1, I1, zi_up R1 (X + 255) k b, ?_, ⟨p5.1, fun j j1 j2 => ?_⟩, fun q hq => ⟨sq q (by omega), iq q (by omega), by rw [zu_off (by omega), rq q (by omega)]⟩⟩
  · rw [show X + 292 + 2 * (k + 1) = b + 2 by omega, hb, zk_98_128]
    ((try simp only [zbd_conv]); simp (disch := first | assumption | omega | trivial) only [↓reduceIte, zbd_some, eq_self, Int.reduceEq, Int.reduceLT, Int.reduceLE, and_self, or_true, true_or, or_false, false_or, if_pos, if_neg, if_true, if_false, true_and, and_true, not_true_eq_false, not_false_eq_true, false_and, and_false, Option.bind_some, zq_t, zq_f, zq0, zq1, zw_id, h, h5, h17, zn_new, k1, r1, s1a, s1b, zwq])
  · by_cases g : j = k
    · rw [g, zu_eq ⟨rfl, rfl⟩, hb]
      exact ⟨rfl, zn_sh_congr l1 (fun q _ _ => rfl) (zu_off (by omega)), l2, l3⟩
    · exact p5.2 j j1 (by omega)
/-- what the object holds, when it is new: told as the rows of the reference -/
def zn_first (A : zI) : Prop := A 1 = zt_zero.1 ∧ (A 0 4 = 0 ∧ A 0 5 = 0 ∧ A 0 6 = 20 ∧ A 0 7 = 4 ∧ A 0 8 = 2 ∧ A 0 9 = 2 ∧ A 0 10 = 0 ∧ A 0 12 = 0 ∧ A 0 13 = 0) ∧ (∀ k, A 12 k = 0) ∧ ∀ k, 0 ≤ k → k < 4 → A 14 k = -4
theorem zn_all {J A : zI} (hp : zn_p5 S I R X 4) (hd : zc_done I J X (X + 256) zt_zero.1 (I (X + 4) 0) (I (X + 4) 1) (I (X + 4) 2) (I (X + 4) 3)) (hA : zn_first A) : zc_all J R X A := by
  obtain ⟨⟨⟨⟨⟨⟨⟨a1, a2⟩, a3, a4, a5⟩, b1, b2, b3, b4, b5, ⟨b60, b61, b62, b63⟩, b7, b8⟩, ⟨c1, c2, c3, c4⟩, c5, c6, c7, c8, c9⟩, d1, d2, d3, d4⟩, e1⟩, f1⟩ := id hp
  obtain ⟨A1, ⟨A4, A5, A6, A7, A8, A9, A10, A12, A13⟩, A12r, A14⟩ := hA
  have z0 : zt_zero.1 0 = 1 := (show (if (0 : Int) = 0 then (1 : Int) else 0) = 1 from if_pos rfl)
  have zj : ∀ j, j ≠ 0 → zt_zero.1 j = 0 := fun j hj => if_neg hj
  obtain ⟨v, c, g1, g2, g3, g4, ⟨g5, g6⟩, g7⟩ := hd
  obtain ⟨v0, c0⟩ := zl_settle0 g1 (by rw [zj 518 (by omega), zj _ (by omega)]; omega) (zj 519 (by omega))
  have ez : zt_up zt_zero.1 519 v = zt_zero.1 := by
    funext j
    by_cases g : j = 519
    · rw [zt_up_eq g, v0, g, zj _ (by omega)]
    · rw [zt_up_ne g]
  rw [ez] at g5 g6 g7
  have jq : ∀ q, q ≠ X → q < X + 135 ∨ X + 255 ≤ q ∧ q ≠ X + 256 → J q = I q := fun q q1 q2 => g2 q q1 (by omega) (by omega)
  rw [b60, b61, b62, b63] at g7
  refine ⟨⟨by rw [c4, A1]; exact g5, by rw [A1]; exact g6⟩, ⟨?_, ?_⟩, fun l l1 l2 => ?_, ⟨by rw [g4, c0, A10], by rw [g3 9 (by omega), d4, A13]⟩, ⟨by rw [jq _ (by omega) (by omega), b5, A12], by omega, fun j j1 j2 => by omega⟩, ⟨by rw [jq _ (by omega) (by omega), b7, b8, A4, A5]; exact ⟨rfl, rfl⟩, by omega, fun k k1 k2 => by omega, fun j j1 j2 => by omega⟩, fun k k1 k2 => ⟨⟨by rw [jq _ (by omega) (by omega), (e1 k k1 k2).2.2.2, A12r], Or.inl (A12r k)⟩, fun q => by rw [A12r] at q; omega⟩, fun k k1 k2 => ?_⟩
  · rw [jq _ (by omega) (by omega), b60, b61, b62, b63, A6, A7, A8, A9]
    exact ⟨rfl, rfl, rfl, rfl⟩
  · unfold zr_mo
    omega
  · rw [A1] at l2 ⊢
    rw [A6, A7, A8, A9]
    exact g7 l l1 l2
  · obtain ⟨f2, f3, f4, f5⟩ := f1 k k1 k2
    refine ⟨?_, Or.inl ⟨?_, A14 k k1 k2⟩⟩
    · rw [jq _ (by omega) (by omega), f5]; omega
    · rw [jq _ (by omega) (by omega), f4]
theorem zn_C (h : (S X).1 = 10) (hX : 0 < X) : ∃ S' I' R' u, zG (d + 8) 98 [.inr (.inr X)] (S, I, R, (X + 1, t)) = some (0, (S', I', R', (X + 300, t + u))) ∧ u < 100000 ∧ zs_cl S' R' X ∧ (∀ A, zn_first A → zc_all I' R' X A) ∧ ∀ q, q < X → S' q = S q ∧ I' q = I q ∧ R' q = R q := by
  obtain ⟨S1, I1, R1, r1, p1, m1⟩ := zn_C1 (d := d + 3) (I := I) (R := R) (t := t) h hX
  obtain ⟨S2, I2, R2, r2, p2, m2⟩ := zn_C2 (d := d + 3) (t := t + 6 + 408 + 4 + 3 + 16 + 527 * 16) (w := 1019998) p1
  obtain ⟨S3, I3, R3, r3, p3, m3⟩ := zn_C3 (d := d + 3) (t := t + 6 + 408 + 4 + 3 + 16 + 527 * 16 + 2 + 12 + 11 + 329 + 340 * 12 + 2 + 4 + 4 + 3 + 492 + 4 + 24) (w := 1019997) p2
  obtain ⟨t3, ht3⟩ : ∃ t3, t3 = t + 6 + 408 + 4 + 3 + 16 + 527 * 16 + 2 + 12 + 11 + 329 + 340 * 12 + 2 + 4 + 4 + 3 + 492 + 4 + 24 + 4 + 3 + 492 + 4 + 24 := ⟨_, rfl⟩
  rw [← ht3] at r3
  obtain ⟨S4, I4, R4, r4, p4, m4⟩ := zn_C4 (d := d + 3) (t := t3) (w := 1019996) (k := 0) ⟨p3, fun j j1 j2 => by omega⟩ (by omega)
  obtain ⟨S5, I5, R5, r5, p5, m5⟩ := zn_C4 (d := d + 3) (t := t3 + 3 + 4 + 3 + 492 + 4 + 24 + 4) (w := 1019995) p4 (by omega)
  obtain ⟨t5, ht5⟩ : ∃ t5, t5 = t3 + 3 + 4 + 3 + 492 + 4 + 24 + 4 + 3 + 4 + 3 + 492 + 4 + 24 + 4 := ⟨_, rfl⟩
  rw [← ht5] at r5
  obtain ⟨S6, I6, R6, r6, p6, m6⟩ := zn_C5 (d := d + 3) (t := t5) (w := 1019993) (k := 0) ⟨p5, fun j j1 j2 => by omega⟩ (by omega)
  obtain ⟨S7, I7, R7, r7, p7, m7⟩ := zn_C5 (d := d + 3) (t := t5 + 4 + 20) (w := 1019992) p6 (by omega)
  obtain ⟨S8, I8, R8, r8, p8, m8⟩ := zn_C5 (d := d + 3) (t := t5 + 4 + 20 + 4 + 20) (w := 1019991) p7 (by omega)
  obtain ⟨S9, I9, R9, r9, p9, m9⟩ := zn_C5 (d := d + 3) (t := t5 + 4 + 20 + 4 + 20 + 4 + 20) (w := 1019990) p8 (by omega)
  rw [show (0 : Int) + 1 + 1 + 1 + 1 = 4 by omega] at p9 r9
  have hcl := zn_p5_cl p9
  obtain ⟨⟨⟨⟨⟨-, -, -, -, -, -, ⟨b60, b61, b62, b63⟩, -⟩, ⟨-, -, -, c4⟩, -, -, -, -, c9⟩, -⟩, -⟩, -⟩ := id p9
  obtain ⟨J, j1, j2⟩ := zx_layAll (d := d) (T := (X + 300, t5 + 4 + 20 + 4 + 20 + 4 + 20 + 4 + 20)) hcl c4 c9 zw_zero.1 (by unfold zr_se; omega)
  refine ⟨S9, J, R9, t5 + 4 + 20 + 4 + 20 + 4 + 20 + 4 + 20 - t, ?_, by omega, hcl, fun A hA => zn_all p9 j2 hA, fun q hq => ?_⟩
  · have z1 : X + 272 = X + 272 + 10 * 0 := by omega
    have z2 : X + 292 = X + 292 + 2 * 0 := by omega
    have z3 : X + 272 + 10 * (0 + 1 + 1) = X + 292 + 2 * 0 := by omega
    have z4 : (0 : Int) + 1 + 1 = 2 := by omega
    have z5 : X + 292 + 2 * 4 = X + 300 := by omega
    have z6 : t + (t5 + 4 + 20 + 4 + 20 + 4 + 20 + 4 + 20 - t) = t5 + 4 + 20 + 4 + 20 + 4 + 20 + 4 + 20 := by omega
    have n15 := p5.1.1.2.2.2.1
    have n4 := p5.1.1.2.1.2.1
    have n10 := p5.1.1.1.1.1.2
    have n17 := p9.1.1.1.2.2.2.2.1
    have n5 := p9.1.1.1.2.1.2.2.1
    have n9 := hcl.1.2
    rw [z1] at r3
    rw [z6, r1, r2, r3, r4, r5, zk_98_98, z3]
    ((try simp only [zbd_conv]); simp (disch := first | assumption | omega | trivial) only [↓reduceIte, zbd_some, eq_self, Int.reduceEq, Int.reduceLT, Int.reduceLE, and_self, or_true, true_or, or_false, false_or, if_pos, if_neg, if_true, if_false, true_and, and_true, not_true_eq_false, not_false_eq_true, false_and, and_false, Option.bind_some, zq_t, zq_f, zq0, zq1, zw_id, n10, n4, n15])
    rw [r6, r7, r8, r9, zk_98_128, z5]
    ((try simp only [zbd_conv]); simp (disch := first | assumption | omega | trivial) only [↓reduceIte, zbd_some, eq_self, Int.reduceEq, Int.reduceLT, Int.reduceLE, and_self, or_true, true_or, or_false, false_or, if_pos, if_neg, if_true, if_false, true_and, and_true, not_true_eq_false, not_false_eq_true, false_and, and_false, Option.bind_some, zq_t, zq_f, zq0, zq1, zw_id, n9, n5, n17, j1])
  · obtain ⟨v, c, g1, g2, g3, g4, g5, g7⟩ := j2
    obtain ⟨x1, y1, w1⟩ := m1 q hq
    obtain ⟨x2, y2, w2⟩ := m2 q hq
    obtain ⟨x3, y3, w3⟩ := m3 q hq
    obtain ⟨x4, y4, w4⟩ := m4 q hq
    obtain ⟨x5, y5, w5⟩ := m5 q hq
    obtain ⟨x6, y6, w6⟩ := m6 q hq
    obtain ⟨x7, y7, w7⟩ := m7 q hq
    obtain ⟨x8, y8, w8⟩ := m8 q hq
    obtain ⟨x9, y9, w9⟩ := m9 q hq
    exact ⟨by rw [x9, x8, x7, x6, x5, x4, x3, x2, x1], by rw [g2 q (by omega) (by omega) (by omega), y9, y8, y7, y6, y5, y4, y3, y2, y1], by rw [w9, w8, w7, w6, w5, w4, w3, w2, w1]⟩
end ZNt
