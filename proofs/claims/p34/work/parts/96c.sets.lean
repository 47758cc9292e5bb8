/-! the law: takes, sets -/
/-- two calls one behind another: no rfl for the kernel to look through -/
theorem zbd_sm {q : Int × zM} {f : Int × zM → zR} {u : zU f} : zbd (some q) f u = f q := by
  cases q
  unfold zbd
  simp
section ZAe
variable {d : Nat} {S : zS} {I J J0 J1 J2 K R R' F : zI} {T : Int × Nat} {X n v l f g c k x y z r i j p w t m e a b N nd nu o u : Int} {P P2 Q Q0 Q2 : Int → Int} {σ : zM}
theorem zi_and_id (h : 0 ≤ x ∧ x < 2147483648) : zi_and x 2147483647 = x := by
  have hm : (Int32.ofInt x &&& Int32.ofInt 2147483647).toBitVec.msb = false := by
    rw [Int32.toBitVec_and, BitVec.msb_and]
    have : (Int32.ofInt 2147483647).toBitVec.msb = false := by decide
    rw [this, Bool.and_false]
  show (Int32.ofInt x &&& Int32.ofInt 2147483647).toBitVec.toInt = x
  rw [BitVec.toInt_eq_msb_cond, hm]
  have h2 : (Int32.ofInt 2147483647).toBitVec.toNat = 2 ^ 31 - 1 := by decide
  have h3 : (Int32.ofInt x).toBitVec.toNat = x.toNat := by
    show (BitVec.ofInt 32 x).toNat = x.toNat
    rw [BitVec.toNat_ofInt]
    congr 1
    omega
  simp only [Bool.false_eq_true, ↓reduceIte]
  rw [Int32.toBitVec_and, BitVec.toNat_and, h2, h3, Nat.and_two_pow_sub_one_eq_mod]
  omega
theorem zQ_edit (ha : 0 ≤ a ∧ a < 5) (hb : 0 ≤ b ∧ b < 1000) : zQ (a + 12 * b) 12 ≤ 4 := by
  unfold zQ
  rw [zi_and_id (by omega), zw_rem (by omega) (by omega)]
  omega
theorem zS_st (h : zA S I R X P w t m e nd nu) : zG (d + 11) 147 [.inr (.inr X)] (S, I, R, T) = some (1, (S, I, R, T)) := by
  obtain ⟨⟨c, hs⟩, -⟩ := h.2.1
  exact zS_steady h.1 (zA_stop h.1 hs).1
theorem zS_stx (h : zA_ex S I R X) : zG (d + 11) 147 [.inr (.inr X)] (S, I, R, T) = some (1, (S, I, R, T)) := by
  obtain ⟨P, w, t, m, e, nd, nu, h⟩ := h
  exact zS_st h
theorem zS_nex (h : zA_ex S I R X) : zG (d + 11) 148 [.inr (.inr X)] (S, I, R, T) = some (1, (S, I, R, T)) := by
  obtain ⟨P, w, t, m, e, nd, nu, h⟩ := h
  exact zS_nested h.1
set_option maxHeartbeats 1000000 in
theorem zS_takes (h : zA_ex S I R X) : ∃ J R', zG (d + 1 + 11) 150 [.inr (.inr X), .inl x] (S, I, R, T) = some (1, (S, J, R', T)) ∧ zA_ex S J R' X := by
  have hex := h
  obtain ⟨P, w, t, m, e, nd, nu, h⟩ := h
  have x1 := zcl_x1 h.1.1
  have al : ∀ {I R : zI} {P : Int → Int}, zA_now S I R X P w t m e → zG (d + 1 + 10) 146 [.inr (.inr X)] (S, I, R, T) = some (zH_all d P w t m e, (S, I, R, T)) := fun h => zH_all_ok (d := d) h
  have pt : ∀ v n, n ≠ 0 → zG (d + 1 + 10) 138 [.inl v, .inl n] (S, I, R, T) = some (zQ v n, (S, I, R, T)) := fun v n hn => zx_part (d := d + 1 + 9) hn
  have b1 := zQ_b (v := x) (n := 5) (by omega)
  have b2 := zQ_b (v := zi_shr x 3) (n := 1000) (by omega)
  have p1 := pt x 5 (by omega)
  have p2 := pt (zi_shr x 3) 1000 (by omega)
  obtain ⟨y, J, R', e1, e2⟩ := zS_edit (d := d) (T := T) (x := zQ x 5 + 12 * zQ (zi_shr x 3) 1000) h (zQ_edit b1 b2)
  change zG (d + 1 + 10) _ _ _ = _ at e1
  have al1 := al h.1
  have ru1 := zA_rule1 (d := d + 1) (T := T) h.1
  generalize zQ x 5 = a5 at *
  generalize zQ (zi_shr x 3) 1000 = b5 at *
  rcases e2 with ⟨e2, e3, e4⟩ | ⟨e2, P2, nd2, e3, e4, e5⟩
  · subst e2 e3 e4
    refine ⟨_, _, ?_, hex⟩
    rw [zm_150]
    ((try simp only [zbd_conv]); simp (disch := first | assumption | omega | trivial) only [↓reduceIte, zbd_sm, eq_self, Int.reduceEq, Int.reduceLT, Int.reduceLE, and_self, or_true, true_or, or_false, false_or, if_pos, if_neg, if_true, if_false, true_and, and_true, not_true_eq_false, not_false_eq_true, false_and, and_false, zq_t, zq_f, zq0, zq1, zw_id, x1, al1, ru1, p1, p2, Int.mul_one, e1])
  · subst e2
    have al2 := al e4.1
    obtain ⟨J3, R3, v, c, u1, u2, u3, u4, u5⟩ := zA_undo (d := d + 1) (T := T) e4 e3 e5 (zA_pg h.1) h.2.1.2
    rw [zA_stay (zA_pg h.1) h.2.1.1 u2] at u4
    have al3 := al u4.1
    have ru3 := zA_rule1 (d := d + 1) (T := T) u4.1
    obtain ⟨J4, R4, v', c', r1, r2, r3, r4⟩ := zA_redo (d := d + 1) (T := T) u4 (by omega) u5 (zA_pg e4.1) e4.2.1.2
    obtain ⟨c0, hs0⟩ := e4.2.1.1
    rw [zA_stay (zA_pg e4.1) e4.2.1.1 r2] at r4
    have ca := zA_car r4.1
    have gl4 : zA_gl J4 X P2 := by
      unfold zA_gl
      obtain ⟨-, z⟩ := zl_settle_uniq (zA_len r4.1 ca.1).1 ca.2.1 r2 hs0
      rw [r3, z]
      exact (zA_stop r4.1 hs0).2
    have al4 := al r4.1
    have ca0 := zA_caret0 (d := d + 1) (T := T) r4.1
    have ca1 := zA_caret1 (d := d + 1) (T := T) r4.1
    obtain ⟨y1, J5, s1, s2⟩ := zT_step (d := d + 1) (T := T) r4 gl4
    have un : ¬ nd2 - 1 < 0 := by omega
    have rn : ¬ (0 : Int) + 1 - 1 < 0 := by omega
    rcases s2 with ⟨s2, s3⟩ | ⟨s2, J6, s3, s4, s5⟩
    · rw [s3] at s1
      obtain ⟨cr, hcr⟩ : ∃ cr, cr = zA_B J4 X P2 (P2 518) + J4 (X + 135 + 11 + 9 * P2 518 + 1) (P2 519) := ⟨_, rfl⟩
      obtain ⟨N, hN⟩ : ∃ N, N = zA_B J4 X P2 (P2 0) := ⟨_, rfl⟩
      obtain ⟨bb, d1, J7, t1, t2, t3, -, J8, t4, t5⟩ := zT_172 (d := d + 1) (T := T) r4 gl4 hcr hN
      have ca3 := zA_caret3 (d := d + 1) (T := T) r4.1
      rw [← hcr] at ca3
      have ca2 := zA_caret2 (d := d + 1) (I := J4) (T := T) r4.1.1
      have t5 := t5 1019998
      refine ⟨J8, R4, ?_, t4⟩
      rw [zm_150]
      by_cases gN : cr + 1 < N
      · rw [if_pos gN] at t5
        ((try simp only [zbd_conv]); simp (disch := first | assumption | omega | trivial) only [↓reduceIte, zbd_sm, eq_self, Int.reduceEq, Int.reduceLT, Int.reduceLE, and_self, or_true, true_or, or_false, false_or, if_pos, if_neg, if_true, if_false, true_and, and_true, not_true_eq_false, not_false_eq_true, false_and, and_false, zq_t, zq_f, zq0, zq1, zw_id, x1, al1, ru1, p1, p2, Int.mul_one, e1, al2, u1, un, al3, ru3, r1, rn, al4, ca0, ca1, s1, ca3, ca2, t1, t2])
        exact t5
      · rw [if_neg gN] at t5
        ((try simp only [zbd_conv]); simp (disch := first | assumption | omega | trivial) only [↓reduceIte, zbd_sm, eq_self, Int.reduceEq, Int.reduceLT, Int.reduceLE, and_self, or_true, true_or, or_false, false_or, if_pos, if_neg, if_true, if_false, true_and, and_true, not_true_eq_false, not_false_eq_true, false_and, and_false, zq_t, zq_f, zq0, zq1, zw_id, x1, al1, ru1, p1, p2, Int.mul_one, e1, al2, u1, un, al3, ru3, r1, rn, al4, ca0, ca1, s1, ca3, ca2, t1, t2])
        exact t5
    · obtain ⟨cr, hcr⟩ : ∃ cr, cr = zA_B J6 X P2 (P2 518) + J6 (X + 135 + 11 + 9 * P2 518 + 1) (P2 519) := ⟨_, rfl⟩
      obtain ⟨N, hN⟩ : ∃ N, N = zA_B J6 X P2 (P2 0) := ⟨_, rfl⟩
      obtain ⟨bb, d1, J7, t1, t2, t3, -, J8, t4, t5⟩ := zT_172 (d := d + 1) (T := T) s4 s5 hcr hN
      have ca3 := zA_caret3 (d := d + 1) (T := T) s4.1
      rw [← hcr] at ca3
      have ca2 := zA_caret2 (d := d + 1) (I := J6) (T := T) s4.1.1
      have ca06 := zA_caret0 (d := d + 1) (T := T) s4.1
      have sn : ¬ y1 < 0 := by omega
      have t5 := t5 1019998
      refine ⟨J8, R4, ?_, t4⟩
      rw [zm_150]
      by_cases gN : cr + 1 < N
      · rw [if_pos gN] at t5
        ((try simp only [zbd_conv]); simp (disch := first | assumption | omega | trivial) only [↓reduceIte, zbd_sm, eq_self, Int.reduceEq, Int.reduceLT, Int.reduceLE, and_self, or_true, true_or, or_false, false_or, if_pos, if_neg, if_true, if_false, true_and, and_true, not_true_eq_false, not_false_eq_true, false_and, and_false, zq_t, zq_f, zq0, zq1, zw_id, x1, al1, ru1, p1, p2, Int.mul_one, e1, al2, u1, un, al3, ru3, r1, rn, al4, ca0, ca1, s1, sn, s3, ca06, ca3, ca2, t1, t2])
        exact t5
      · rw [if_neg gN] at t5
        ((try simp only [zbd_conv]); simp (disch := first | assumption | omega | trivial) only [↓reduceIte, zbd_sm, eq_self, Int.reduceEq, Int.reduceLT, Int.reduceLE, and_self, or_true, true_or, or_false, false_or, if_pos, if_neg, if_true, if_false, true_and, and_true, not_true_eq_false, not_false_eq_true, false_and, and_false, zq_t, zq_f, zq0, zq1, zw_id, x1, al1, ru1, p1, p2, Int.mul_one, e1, al2, u1, un, al3, ru3, r1, rn, al4, ca0, ca1, s1, sn, s3, ca06, ca3, ca2, t1, t2])
        exact t5
/-- no breaks: a line is one row -/
theorem zA_m0 (h : zA_now S I R X P w t 0 e) (hl : 0 ≤ l ∧ l < P 0) : I (X + 135 + 11 + 9 * l) 1 = 1 := by
  have pic := (zA_pic h hl).2.2.1
  have nr := zA_nrows h hl
  obtain ⟨-, -, -, -, h5, -⟩ := pic
  by_cases g : I (X + 135 + 11 + 9 * l) 1 = 1
  · exact g
  · obtain ⟨j, ⟨-, -, -, q⟩, -⟩ := h5 0 (by omega) (by omega)
    exact absurd (Or.inl (Or.inl rfl)) q
theorem zA_B_m0 (h : zA_now S I R X P w t 0 e) : zA_B I X P (P 0) = P 0 - zk_sm (fun l => zq (zt_hid P l)) (P 0) ∧ 0 ≤ zk_sm (fun l => zq (zt_hid P l)) (P 0) ∧ zk_sm (fun l => zq (zt_hid P l)) (P 0) ≤ P 0 := by
  have h0 := (zA_pg h).1
  have key : ∀ k : Nat, (k : Int) ≤ P 0 → zA_B I X P k = k - zk_sm (fun l => zq (zt_hid P l)) k ∧ 0 ≤ zk_sm (fun l => zq (zt_hid P l)) k ∧ zk_sm (fun l => zq (zt_hid P l)) k ≤ k := by
    intro k
    induction k with
    | zero =>
      intro _
      rw [show ((0 : Nat) : Int) = 0 from rfl, zA_B0, zk_sm0 (by omega)]
      omega
    | succ k ih =>
      intro hk
      obtain ⟨i1, i2, i3⟩ := ih (by omega)
      rw [show ((k + 1 : Nat) : Int) = (k : Int) + 1 by omega, zk_smS (by omega)]
      by_cases g : zt_hid P k
      · rw [zA_Bh (by omega) g, zq_t g]
        omega
      · rw [zA_Bn (by omega) g, zq_f g, zA_m0 h (by omega)]
        omega
  have := key (P 0).toNat (by omega)
  rw [show (((P 0).toNat : Nat) : Int) = P 0 by omega] at this
  exact this
set_option maxHeartbeats 1000000 in
theorem zS_sets (h : zA_ex S I R X) : ∃ J, zG (d + 1 + 11) 151 [.inr (.inr X), .inl x] (S, I, R, T) = some (1, (S, J, R, T)) ∧ zA_ex S J R X := by
  obtain ⟨P, w, t, m, e, nd, nu, h⟩ := h
  have x1 := zcl_x1 h.1.1
  have st := zA_st h.1
  have h0 := (zA_pg h.1).1
  have al : ∀ {I R : zI} {P : Int → Int}, zA_now S I R X P w t m e → zG (d + 1 + 10) 146 [.inr (.inr X)] (S, I, R, T) = some (zH_all d P w t m e, (S, I, R, T)) := fun h => zH_all_ok (d := d) h
  obtain ⟨y1, J1, k1, k2, k3, k4⟩ := zA_keep (d := d + 1) (T := T) h
  have kn : ¬ y1 < 0 := by omega
  have al1 := al k3.1
  have b1 := zQ_b (v := x) (n := 37) (by omega)
  have p1 : zG (d + 1 + 10) 138 [.inl x, .inl 37] (S, J1, R, T) = some (zQ x 37, (S, J1, R, T)) := zx_part (d := d + 1 + 9) (by omega)
  generalize zQ x 37 = a at *
  obtain ⟨J2, y2, s1, s2, -, s4⟩ := zA_setting (d := d + 1) (T := T) (x := 0) (v := 4 + a) k3 (Or.inl ⟨rfl, by omega, by omega⟩)
  simp only [Int.reduceEq, ↓reduceIte] at s1 s2
  obtain ⟨P2, hP2⟩ : ∃ P2, P2 = zt_up P 519 y2 := ⟨_, rfl⟩
  rw [← hP2] at s2
  obtain ⟨J3, y3, u1, u2, u3, u4⟩ := zA_setting (d := d + 1) (T := T) (x := 2) (v := 0) s2 (Or.inr (Or.inr (Or.inl ⟨rfl, by omega, by omega⟩)))
  simp only [Int.reduceEq, ↓reduceIte] at u1 u2
  obtain ⟨P3, hP3⟩ : ∃ P3, P3 = zt_up P2 519 y3 := ⟨_, rfl⟩
  rw [← hP3] at u2
  have ru2 := zA_rule2 (d := d + 1) (T := T) u2.1
  have ru0 := zA_rule0 (d := d + 1) (T := T) u2.1
  have ru3 := zA_rule3 (d := d + 1) (T := T) u2.1
  obtain ⟨m1, m2, m3⟩ := zA_B_m0 u2.1
  have h30 := (zA_pg u2.1).1
  rw [m1] at ru2
  have ca2 := zA_caret2 (d := d + 1) (I := J3) (T := T) u2.1.1
  have ca4 := zA_caret4 (d := d + 1) (T := T) u2.1
  have e8 : P3 518 = P2 518 := by rw [hP3]; exact zt_up_ne (by omega)
  have e9 : P3 519 = y3 := by rw [hP3]; exact zt_up_eq rfl
  rw [e8, e9, ← u3] at ca4
  have st3 : zG (d + 1 + 10) 147 [.inr (.inr X)] (S, J3, R, T) = some (1, (S, J3, R, T)) := zS_st (d := d) u2
  generalize zk_sm (fun l => zq (zt_hid P3 l)) (P3 0) = hh at *
  obtain ⟨J4, y4, v1, v2, -, v4⟩ := zA_setting (d := d + 1) (T := T) (x := 0) (v := w) u2 (Or.inl ⟨rfl, by omega, by omega⟩)
  simp only [Int.reduceEq, ↓reduceIte] at v1 v2
  have an : ¬ 4 + a < 0 := by omega
  obtain ⟨J5, y5, w1, w2, -, w4⟩ := zA_setting (d := d + 1) (T := T) (x := 2) (v := m) v2 (Or.inr (Or.inr (Or.inl ⟨rfl, by omega, by omega⟩)))
  simp only [Int.reduceEq, ↓reduceIte] at w1 w2
  have st5 : zG (d + 1 + 10) 147 [.inr (.inr X)] (S, J5, R, T) = some (1, (S, J5, R, T)) := zS_st (d := d) w2
  have img5 := zA_img_I (zA_img_I (zA_img_I (zA_img_I k4 s4) u4) v4) w4
  obtain ⟨J6, z1, z2⟩ := zA_back (d := d + 1) (T := T) w2 img5 st (zA_pg h.1) h.2.1.2 h.2.1.1
  have ru06 := zA_rule0 (d := d + 1) (T := T) z2.1
  have al6 := al z2.1
  have ru10 := zA_rule10 (d := d + 1) (I := J6) (T := T) z2.1.1
  rw [z2.2.2.1.1] at ru10
  refine ⟨J6, ?_, ⟨P, w, t, m, e, 0, 0, z2⟩⟩
  rw [zm_151]
  ((try simp only [zbd_conv]); simp (disch := first | assumption | omega | trivial) only [↓reduceIte, zbd_sm, eq_self, Int.reduceEq, Int.reduceLT, Int.reduceLE, and_self, or_true, true_or, or_false, false_or, if_pos, if_neg, if_true, if_false, true_and, and_true, not_true_eq_false, not_false_eq_true, false_and, and_false, zq_t, zq_f, zq0, zq1, zw_id, x1, k1, kn, al1, p1, s1, u1, ru2, ru0, ru3, ca2, ca4, st3, v1, an, w1, st5, z1, ru06, al6, ru10])
end ZAe
