/-! the law: the start, the rounds, the whole -/
section ZAh
variable {d : Nat} {S : zS} {I J K R R' : zI} {T : Int × Nat} {X Z V s0 x0 L i c : Int} {t : Nat}
/-- the rows of the reference, when the object is new -/
def zN_row0 : zI := fun k j => if k = 1 then zt_zero.1 j else if k = 0 then (if j = 6 then 20 else if j = 7 then 4 else if j = 8 then 2 else if j = 9 then 2 else 0) else if k = 14 then -4 else 0
theorem zN_row0_first : zn_first zN_row0 := ⟨rfl, ⟨rfl, rfl, rfl, rfl, rfl, rfl, rfl, rfl, rfl⟩, fun k => rfl, fun k k1 k2 => rfl⟩
theorem zA_first (hc : zs_cl S R X) (h : zc_all I R X zN_row0) : zA_ex S I R X ∧ I (X + 1) 2 = 0 := by
  obtain ⟨A1, ⟨A4, A5, A6, A7, A8, A9, A10, A12, A13⟩, -⟩ := zN_row0_first
  obtain ⟨⟨h1, h2⟩, ⟨⟨s1, s2, s3, s4⟩, -⟩, hl, -, ⟨t1, -⟩, ⟨⟨d1, d2⟩, -⟩, -⟩ := h
  rw [A1] at h1 h2
  rw [A6] at s1
  rw [A7] at s2
  rw [A8] at s3
  rw [A9] at s4
  rw [A12] at t1
  rw [A4] at d1
  rw [A5] at d2
  have z0 : zt_zero.1 0 = 1 := (show (if (0 : Int) = 0 then (1 : Int) else 0) = 1 from if_pos rfl)
  have zj : ∀ j, j ≠ 0 → zt_zero.1 j = 0 := fun j hj => if_neg hj
  have hn : zA_now S I R X zt_zero.1 20 4 2 2 := ⟨hc, ⟨h1, h2⟩, ⟨⟨s1, s2, s3, s4⟩, by omega, by omega, by omega, by omega⟩, fun l l1 l2 => by
    have hq := hl l l1 (by rw [A1]; exact l2)
    rw [A1, A6, A7, A8, A9] at hq
    exact hq⟩
  refine ⟨⟨zt_zero.1, 20, 4, 2, 2, 0, 0, hn, ⟨⟨_, zA_settled hn ?_⟩, ?_⟩, ⟨⟨d1, d2⟩, by omega, fun k k1 k2 => by omega⟩⟩, t1⟩
  · rw [zj 518 (by omega), zj 519 (by omega)]
    exact (zA_ends hn (l := 0) ⟨by omega, by rw [z0]; omega⟩).1
  · rintro ⟨k, ⟨k1, k2⟩, -⟩
    rw [zj 493 (by omega)] at k2
    omega
theorem zq9_55 (hs : S x0 = (18, L)) (hL : 0 ≤ L ∧ L ≤ 260) : ∀ (u : Nat) (i : Int) (I R : zI) (w' : Nat), (u : Int) + i = 16 → 0 ≤ i → zA_ex S I R X → u + 1 ≤ w' → ∃ J R', zi_run zt_152 (zG (d + 1 + 11)) w' 55 [some (.inr (.inr x0)), some (.inr (.inr X)), none, none, some (.inl i), none] [] (S, I, R, T) = some (1, (S, J, R', T)) := by
  intro u
  induction u with
  | zero =>
    intro i I R w' e1 e2 h e3
    obtain ⟨w', rfl⟩ : ∃ w'', w' = w'' + 1 := ⟨w' - 1, by omega⟩
    obtain ⟨v, v1⟩ := zx_Lcell (d := d + 11) (I := I) (R := R) (T := T) (x := 3) hs hL (by omega)
    obtain ⟨J, j1, j2⟩ := zS_sets (d := d) (x := v) (T := T) h
    have st := zS_stx (d := d + 1) (T := T) j2
    have ne := zS_nex (d := d + 1) (T := T) j2
    refine ⟨J, R, ?_⟩
    rw [zk_152_55]
    ((try simp only [zbd_conv]); simp (disch := first | assumption | omega | trivial) only [↓reduceIte, zbd_sm, eq_self, Int.reduceEq, Int.reduceLT, Int.reduceLE, and_self, or_true, true_or, or_false, false_or, if_pos, if_neg, if_true, if_false, true_and, and_true, not_true_eq_false, not_false_eq_true, false_and, and_false, zq_t, zq_f, zq0, zq1, zw_id, v1, j1, st, ne])
  | succ u ih =>
    intro i I R w' e1 e2 h e3
    obtain ⟨w', rfl⟩ : ∃ w'', w' = w'' + 1 := ⟨w' - 1, by omega⟩
    obtain ⟨v, v1⟩ := zx_Lcell (d := d + 11) (I := I) (R := R) (T := T) (x := 120 + i) hs hL (by omega)
    have p := zx_part (d := d + 11) (v := v) (n := 3) (σ := (S, I, R, T)) (by omega)
    by_cases g : 0 < zQ v 3
    · obtain ⟨y, J, R1, a1, a2⟩ := zS_acts (d := d + 1) (x := zi_shr v 2) (T := T) h
      have st := zS_stx (d := d + 1) (T := T) a2
      have ne := zS_nex (d := d + 1) (T := T) a2
      obtain ⟨K, R2, k1⟩ := ih (i + 1) J R1 w' (by omega) (by omega) a2 (by omega)
      refine ⟨K, R2, ?_⟩
      rw [zk_152_55]
      ((try simp only [zbd_conv]); simp (disch := first | assumption | omega | trivial) only [↓reduceIte, zbd_sm, eq_self, Int.reduceEq, Int.reduceLT, Int.reduceLE, and_self, or_true, true_or, or_false, false_or, if_pos, if_neg, if_true, if_false, true_and, and_true, not_true_eq_false, not_false_eq_true, false_and, and_false, zq_t, zq_f, zq0, zq1, zw_id, v1, p, g, a1, st, ne, k1])
    · obtain ⟨J, R1, a1, a2⟩ := zS_takes (d := d) (x := zi_shr v 2) (T := T) h
      have st := zS_stx (d := d + 1) (T := T) a2
      have ne := zS_nex (d := d + 1) (T := T) a2
      obtain ⟨K, R2, k1⟩ := ih (i + 1) J R1 w' (by omega) (by omega) a2 (by omega)
      refine ⟨K, R2, ?_⟩
      rw [zk_152_55]
      ((try simp only [zbd_conv]); simp (disch := first | assumption | omega | trivial) only [↓reduceIte, zbd_sm, eq_self, Int.reduceEq, Int.reduceLT, Int.reduceLE, and_self, or_true, true_or, or_false, false_or, if_pos, if_neg, if_true, if_false, true_and, and_true, not_true_eq_false, not_false_eq_true, false_and, and_false, zq_t, zq_f, zq0, zq1, zw_id, v1, p, g, a1, st, ne, k1])
/-- the law, whole: from any memory whose next cell is c, with a script at x0 -/
theorem zq9_law (hc : 0 < c) (hx0 : x0 < c) (hx : S x0 = (18, L)) (hL : 0 ≤ L ∧ L ≤ 260) : ∃ S' I' R' u, zi_run zt_152 (zG (d + 1 + 11)) 1020000 0 [some (.inr (.inr x0)), none, none, none, none, none] [] (S, I, R, (c, t)) = some (1, (S', I', R', (c + 302, t + u))) ∧ u < 200000 := by
  obtain ⟨S1, I1, R1, u, r1, u1, l1, l2, l3⟩ := zn_C (d := d + 4) (S := zn S c 10 0) (I := zn0 I c) (R := zn0 R c) (X := c) (t := t + 10) (by rw [zn_eq rfl]) hc
  have k1 : (zn S c 10 0 c).1 = 10 := by rw [zn_eq rfl]
  obtain ⟨S2, hS2⟩ : ∃ S2, S2 = zn (zn S1 (c + 300) 19 60) (c + 301) 12 40 := ⟨_, rfl⟩
  obtain ⟨I2, hI2⟩ : ∃ I2, I2 = zn0 (zn0 I1 (c + 300)) (c + 301) := ⟨_, rfl⟩
  obtain ⟨R2, hR2⟩ : ∃ R2, R2 = zn0 (zn0 R1 (c + 300)) (c + 301) := ⟨_, rfl⟩
  have sq : ∀ q, q < c + 300 → S2 q = S1 q := fun q hq => by rw [hS2, zn_ne (by omega), zn_ne (by omega)]
  have iq : ∀ q, q < c + 300 → I2 q = I1 q := fun q hq => by rw [hI2, zn0_ne (by omega), zn0_ne (by omega)]
  have rq : ∀ q, q < c + 300 → R2 q = R1 q := fun q hq => by rw [hR2, zn0_ne (by omega), zn0_ne (by omega)]
  obtain ⟨z1, z2⟩ := zA_first (zn_cl_congr l1 sq rq) (zn_call_congr l1 rq iq (l2 _ zN_row0_first))
  have sx : S2 x0 = (18, L) := by rw [sq x0 (by omega), (l3 x0 hx0).1, zn_ne (by omega), hx]
  obtain ⟨T, hT⟩ : ∃ T : Int × Nat, T = (c + 302, t + 10 + u + 60 + 40) := ⟨_, rfl⟩
  have st0 := zS_stx (d := d + 1) (T := T) z1
  obtain ⟨J, R3, t1, t2⟩ := zS_tell (d := d + 1) (T := T) (X := c) (Z := c + 300) (V := c + 301) (s0 := x0) ⟨by omega, by omega, by omega⟩ (by rw [hS2, zn_eq rfl]) (by rw [hS2, zn_ne (by omega), zn_eq rfl]) sx hL z1 z2
  have st1 := zS_stx (d := d + 1) (T := T) t2
  have ne1 := zS_nex (d := d + 1) (T := T) t2
  obtain ⟨K, R4, k⟩ := zq9_55 (d := d) (T := T) sx hL 16 0 J R3 1019999 (by omega) (by omega) t2 (by omega)
  have e1 : c + 300 + 1 = c + 301 := by omega
  have e2 : c + 301 + 1 = c + 302 := by omega
  refine ⟨S2, K, R4, 10 + u + 60 + 40, ?_, by omega⟩
  rw [show t + (10 + u + 60 + 40) = t + 10 + u + 60 + 40 by omega, ← hT, zk_152_0]
  ((try simp only [zbd_conv]); simp (disch := first | assumption | omega | trivial) only [↓reduceIte, zbd_sm, eq_self, Int.reduceEq, Int.reduceLT, Int.reduceLE, and_self, or_true, true_or, or_false, false_or, if_pos, if_neg, if_true, if_false, true_and, and_true, not_true_eq_false, not_false_eq_true, false_and, and_false, zq_t, zq_f, zq0, zq1, zw_id, zn_new, k1, r1, Int.reduceLE, Int.reduceToNat, e1, e2, ← hS2, ← hI2, ← hR2, ← hT, st0, t1, st1, ne1, k])
end ZAh
