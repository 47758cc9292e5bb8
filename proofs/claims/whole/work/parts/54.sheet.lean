/-! THE SHEETS: both make one anew, and write into one -/
section ZSh
variable {d : Nat} {S : zS} {I J K R : zI} {T : Int × Nat} {X M n v l f c k x y z r i p : Int}
theorem zf_char (x : Int) : zi_i2c x = zi_and x 65535 := by
  unfold zi_i2c zi_and
  congr 1
  generalize Int32.ofInt x = a
  apply Int32.toBitVec_inj.1
  apply BitVec.eq_of_toNat_eq
  have h1 : ((a.toUInt32 % 65536).toInt32.toBitVec).toNat = a.toBitVec.toNat % 65536 := rfl
  have h2 : ((a &&& Int32.ofInt 65535).toBitVec).toNat = a.toBitVec.toNat &&& 65535 := rfl
  rw [h1, h2]
  exact (Nat.and_two_pow_sub_one_eq_mod _ 16).symm
theorem zc_sh1_I {A : zI} (h : zc_sh1 I X A k) (e : ∀ q, X + 292 + 2 * k ≤ q → q < X + 294 + 2 * k → J q = I q) : zc_sh1 J X A k := by
  unfold zc_sh1 at *
  rw [e (X + 292 + 2 * k) (by omega) (by omega), e (X + 292 + 2 * k + 1) (by omega) (by omega)]
  exact h
/-- one sheet is elsewhere, all else stays -/
theorem zR4_she (h : zR4 S I R X M) (hk : 0 ≤ k ∧ k < 4) (kI : ∀ q, X ≤ q → q < X + 300 → q ≠ X + 292 + 2 * k → q ≠ X + 292 + 2 * k + 1 → K q = I q) (kM : ∀ q, M ≤ q → q < M + 14 → K q = I q) (k14 : ∀ j, j ≠ k → K (M + 14) j = I (M + 14) j) (k15 : ∀ j, j ≠ k → K (M + 15) j = I (M + 15) j) (k16 : ∀ j, (j < 20 * k ∨ 20 * k + 20 ≤ j) → K (M + 16) j = I (M + 16) j) (hsh : zc_sh1 K X (zr_row K M) k) : zR4 S K R X M := by
  obtain ⟨hc, hm, hap, hall⟩ := id h
  have rq : ∀ q, 0 ≤ q → q < 14 → zr_row K M q = zr_row I M q := fun q q1 q2 => kM (M + q) (by omega) (by omega)
  refine zR4_tis h (fun q q1 q2 _ _ => kI q (by omega) (by omega) (by omega) (by omega)) (fun j _ => by rw [kM M (by omega) (by omega)]) (fun q q1 _ q2 => kM q (by omega) (by omega)) ?_ ?_ (fun g g1 g2 => ?_)
  · exact zc_tap_A (zc_tap_I hall.2.2.2.2.1 (by rw [kI (X + 1) (by omega) (by omega) (by omega) (by omega)]) (kI (X + 2) (by omega) (by omega) (by omega) (by omega))) (by rw [rq 0 (by omega) (by omega)]) (rq 5 (by omega) (by omega))
  · exact zc_img_A (zc_img_I hall.2.2.2.2.2.2.1 (fun q q1 q2 => kI q (by omega) (by omega) (by omega) (by omega))) (rq 12 (by omega) (by omega)) (rq 13 (by omega) (by omega))
  · by_cases gk : g = k
    · rw [gk]; exact hsh
    · have o := hall.2.2.2.2.2.2.2 g g1 g2
      have o := zc_sh1_I (J := K) o (fun q q1 q2 => kI q (by omega) (by omega) (by omega) (by omega))
      unfold zc_sh1 at o ⊢
      rw [zr_row_q, zr_row_q, zr_row_q] at o ⊢
      rw [k14 g gk, k15 g gk]
      refine ⟨o.1, ?_⟩
      rcases o.2 with q | ⟨q1, q2, q3, q4, q5⟩
      · exact Or.inl q
      · have sz := o.1.2
        exact Or.inr ⟨q1, q2, q3, q4, fun j j1 j2 => by rw [k16 _ (by omega)]; exact q5 j j1 j2⟩
theorem zy_isSheet : zG (d + 2) 235 [.inl k, .inl y] (S, I, R, T) = some (zq ((0 ≤ k ∧ k < 4) ∧ 0 ≤ y ∧ y ≤ 3), (S, I, R, T)) := by
  rw [zm_235]
  by_cases g1 : 0 ≤ k ∧ k ≤ 3 <;> by_cases g2 : 0 ≤ y ∧ y ≤ 3 <;> ((try simp only [zbd_conv]); simp (disch := first | assumption | omega | trivial) only [↓reduceIte, zbd_some, eq_self, Int.reduceEq, Int.reduceLT, Int.reduceLE, and_self, or_true, true_or, or_false, false_or, if_pos, if_neg, if_true, if_false, true_and, and_true, not_true_eq_false, not_false_eq_true, false_and, and_false, Option.bind_some, zq_t, zq_f, zq0, zq1, zw_id, zy_in])
theorem zz_sheet (h : zR4 S I R X M) : zz_ok (d + 11) S I R T X M 134 236 [.inl k, .inl y, .inl n] := by
  obtain ⟨hc, hm, hap, hall⟩ := id h
  have oo : zo_ly I I M := zo_ly_refl
  have so := fun d => zx_sheetOf (d := d) (I := I) (T := T) (k := k) hc
  have X0 := hc.1.1
  by_cases g1 : 0 ≤ k ∧ k < 4
  · simp only [if_pos g1] at so
    have z0 : ¬ X + 292 + 2 * k = 0 := by omega
    have sh := zcl_sh hc g1
    have sk := sh.2.1
    by_cases g2 : 0 ≤ y ∧ y ≤ 3
    · by_cases g3 : 20 < n
      · refine zz_read (v := -1) h ?_ ?_ oo
        · rw [zm_134]
          ((try simp only [zbd_conv]); simp (disch := first | assumption | omega | trivial) only [↓reduceIte, zbd_some, eq_self, Int.reduceEq, Int.reduceLT, Int.reduceLE, and_self, or_true, true_or, or_false, false_or, if_pos, if_neg, if_true, if_false, true_and, and_true, not_true_eq_false, not_false_eq_true, false_and, and_false, Option.bind_some, zq_t, zq_f, zq0, zq1, zw_id, zcl_x1 hc, so, z0, zx_hasLane])
        · rw [zm_236]
          ((try simp only [zbd_conv]); simp (disch := first | assumption | omega | trivial) only [↓reduceIte, zbd_some, eq_self, Int.reduceEq, Int.reduceLT, Int.reduceLE, and_self, or_true, true_or, or_false, false_or, if_pos, if_neg, if_true, if_false, true_and, and_true, not_true_eq_false, not_false_eq_true, false_and, and_false, Option.bind_some, zq_t, zq_f, zq0, zq1, zw_id, zy_isSheet])
      · by_cases g4 : n < 0
        · refine zz_read (v := -14) h ?_ ?_ oo
          · rw [zm_134]
            ((try simp only [zbd_conv]); simp (disch := first | assumption | omega | trivial) only [↓reduceIte, zbd_some, eq_self, Int.reduceEq, Int.reduceLT, Int.reduceLE, and_self, or_true, true_or, or_false, false_or, if_pos, if_neg, if_true, if_false, true_and, and_true, not_true_eq_false, not_false_eq_true, false_and, and_false, Option.bind_some, zq_t, zq_f, zq0, zq1, zw_id, zcl_x1 hc, so, z0, zx_hasLane])
          · rw [zm_236]
            ((try simp only [zbd_conv]); simp (disch := first | assumption | omega | trivial) only [↓reduceIte, zbd_some, eq_self, Int.reduceEq, Int.reduceLT, Int.reduceLE, and_self, or_true, true_or, or_false, false_or, if_pos, if_neg, if_true, if_false, true_and, and_true, not_true_eq_false, not_false_eq_true, false_and, and_false, Option.bind_some, zq_t, zq_f, zq0, zq1, zw_id, zy_isSheet])
        · obtain ⟨J, hJ⟩ : ∃ J, J = zp_ren I (X + 292 + 2 * k) y n 20 := ⟨_, rfl⟩
          have jo : ∀ q, q ≠ X + 292 + 2 * k → q ≠ X + 292 + 2 * k + 1 → J q = I q := fun q q1 q2 => by
            funext j; rw [hJ, zp_ren_at, if_neg (by omega), if_neg (by omega), if_neg (by omega), if_neg (by omega)]
          obtain ⟨K, hK⟩ : ∃ K : zI, K = fun q j => if q = M + 16 ∧ 20 * k ≤ j ∧ j < 20 * k + 20 then 0 else zi_up (zi_up J (M + 14) k y) (M + 15) k n q j := ⟨_, rfl⟩
          refine ⟨1, J, R, K, ?_, ?_, ?_⟩
          · rw [zm_134]
            ((try simp only [zbd_conv]); simp (disch := first | assumption | omega | trivial) only [↓reduceIte, zbd_some, eq_self, Int.reduceEq, Int.reduceLT, Int.reduceLE, and_self, or_true, true_or, or_false, false_or, if_pos, if_neg, if_true, if_false, true_and, and_true, not_true_eq_false, not_false_eq_true, false_and, and_false, Option.bind_some, zq_t, zq_f, zq0, zq1, zw_id, zcl_x1 hc, so, z0, sk, zx_hasLane, zx_renew sh, hJ])
          · rw [zm_236]
            ((try simp only [zbd_conv]); simp (disch := first | assumption | omega | trivial) only [↓reduceIte, zbd_some, eq_self, Int.reduceEq, Int.reduceLT, Int.reduceLE, and_self, or_true, true_or, or_false, false_or, if_pos, if_neg, if_true, if_false, true_and, and_true, not_true_eq_false, not_false_eq_true, false_and, and_false, Option.bind_some, zq_t, zq_f, zq0, zq1, zw_id, zy_isSheet, zmo_1 hm, zmo_r26 hm, zmo_r27 hm, zmo_s14 hm, zmo_s15 hm, zwr])
            have key : ∀ (u : Nat) (x : Int) (w' : Nat), (u : Int) + x = 20 → 0 ≤ x → u < w' → zi_run zt_236 (zG (d + 10)) w' 40 [some (.inr (.inr M)), some (.inl k), none, none, some (.inl x)] [] (S, fun q j => if q = M + 16 ∧ 20 * k ≤ j ∧ j < 20 * k + x then 0 else zi_up (zi_up J (M + 14) k y) (M + 15) k n q j, R, T) = some (1, (S, K, R, T)) := by
              intro u
              induction u with
              | zero =>
                intro x w' k1 k2 k3
                obtain ⟨w', rfl⟩ : ∃ w'', w' = w'' + 1 := ⟨w' - 1, by omega⟩
                obtain rfl : x = 20 := by omega
                rw [← hK, zk_236_40]
                ((try simp only [zbd_conv]); simp (disch := first | assumption | omega | trivial) only [↓reduceIte, zbd_some, eq_self, Int.reduceEq, Int.reduceLT, Int.reduceLE, and_self, or_true, true_or, or_false, false_or, if_pos, if_neg, if_true, if_false, true_and, and_true, not_true_eq_false, not_false_eq_true, false_and, and_false, Option.bind_some, zq_t, zq_f, zq0, zq1, zw_id])
              | succ u ih =>
                intro x w' k1 k2 k3
                obtain ⟨w', rfl⟩ : ∃ w'', w' = w'' + 1 := ⟨w' - 1, by omega⟩
                obtain ⟨N, hN⟩ : ∃ N : zI, N = fun q j => if q = M + 16 ∧ 20 * k ≤ j ∧ j < 20 * k + x then 0 else zi_up (zi_up J (M + 14) k y) (M + 15) k n q j := ⟨_, rfl⟩
                rw [← hN, zk_236_40]
                ((try simp only [zbd_conv]); simp (disch := first | assumption | omega | trivial) only [↓reduceIte, zbd_some, eq_self, Int.reduceEq, Int.reduceLT, Int.reduceLE, and_self, or_true, true_or, or_false, false_or, if_pos, if_neg, if_true, if_false, true_and, and_true, not_true_eq_false, not_false_eq_true, false_and, and_false, Option.bind_some, zq_t, zq_f, zq0, zq1, zw_id, zmo_1 hm, zmo_r28 hm, zmo_s16 hm, zwr])
                refine zr_mem ?_ (ih (x + 1) w' (by omega) (by omega) (by omega))
                funext q j
                rw [zi_up_at, hN]
                dsimp only
                by_cases e1 : q = M + 16 ∧ j = 20 * k + x
                · rw [if_pos e1, if_pos (by omega)]
                · rw [if_neg e1]
                  by_cases e2 : q = M + 16 ∧ 20 * k ≤ j ∧ j < 20 * k + x
                  · rw [if_pos e2, if_pos (by omega)]
                  · rw [if_neg e2, if_neg (by omega)]
            refine zr_mem ?_ (key 20 0 19999 (by omega) (by omega) (by omega))
            funext q j
            rw [if_neg (by omega)]
          · have K0 : ∀ q, q ≠ M + 14 → q ≠ M + 15 → q ≠ M + 16 → K q = J q := fun q q1 q2 q3 => by
              funext j
              rw [hK]; dsimp only
              rw [if_neg (by omega), zu_off (by omega), zu_off (by omega)]
            have K14 : ∀ j, K (M + 14) j = if j = k then y else I (M + 14) j := fun j => by
              rw [hK]; dsimp only
              rw [if_neg (by omega), zu_off (by omega), zi_up_at, jo (M + 14) (by omega) (by omega)]
              by_cases e : j = k
              · rw [if_pos ⟨rfl, e⟩, if_pos e]
              · rw [if_neg (by omega), if_neg e]
            have K15 : ∀ j, K (M + 15) j = if j = k then n else I (M + 15) j := fun j => by
              rw [hK]; dsimp only
              rw [if_neg (by omega), zi_up_at, zu_off (by omega), jo (M + 15) (by omega) (by omega)]
              by_cases e : j = k
              · rw [if_pos ⟨rfl, e⟩, if_pos e]
              · rw [if_neg (by omega), if_neg e]
            have K16 : ∀ j, K (M + 16) j = if 20 * k ≤ j ∧ j < 20 * k + 20 then 0 else I (M + 16) j := fun j => by
              rw [hK]; dsimp only
              by_cases e : 20 * k ≤ j ∧ j < 20 * k + 20
              · rw [if_pos ⟨rfl, e⟩, if_pos e]
              · rw [if_neg (by omega), if_neg e, zu_off (by omega), zu_off (by omega), jo (M + 16) (by omega) (by omega)]
            refine zR4_she h g1 (fun q q1 q2 q3 q4 => ?_) (fun q q1 q2 => ?_) (fun j hj => by rw [K14, if_neg hj]) (fun j hj => by rw [K15, if_neg hj]) (fun j hj => by rw [K16, if_neg (by omega)]) ?_
            · rw [K0 q (by omega) (by omega) (by omega), jo q q3 q4]
            · rw [K0 q (by omega) (by omega) (by omega), jo q (by omega) (by omega)]
            · unfold zc_sh1
              rw [zr_row_q, zr_row_q, zr_row_q, K14, K15, if_pos rfl, if_pos rfl, K0 (X + 292 + 2 * k) (by omega) (by omega) (by omega), K0 (X + 292 + 2 * k + 1) (by omega) (by omega) (by omega)]
              have e2 : J (X + 292 + 2 * k) 2 = n := by rw [hJ, zp_ren_at, if_neg (by omega), if_neg (by omega), if_pos ⟨rfl, rfl⟩]
              have e1 : J (X + 292 + 2 * k) 1 = y := by rw [hJ, zp_ren_at, if_neg (by omega), if_pos ⟨rfl, rfl⟩]
              have e0 : J (X + 292 + 2 * k) 0 = 1 := by rw [hJ, zp_ren_at, if_pos ⟨rfl, rfl⟩]
              refine ⟨by omega, Or.inr ⟨e0, g2, e1, e2, fun j j1 j2 => ?_⟩⟩
              rw [K16, if_pos (by omega), hJ, zp_ren_at, if_neg (by omega), if_neg (by omega), if_neg (by omega), if_pos (by omega)]
    · refine zz_read (v := -1) h ?_ ?_ oo
      · rw [zm_134]
        ((try simp only [zbd_conv]); simp (disch := first | assumption | omega | trivial) only [↓reduceIte, zbd_some, eq_self, Int.reduceEq, Int.reduceLT, Int.reduceLE, and_self, or_true, true_or, or_false, false_or, if_pos, if_neg, if_true, if_false, true_and, and_true, not_true_eq_false, not_false_eq_true, false_and, and_false, Option.bind_some, zq_t, zq_f, zq0, zq1, zw_id, zcl_x1 hc, so, z0, zx_hasLane])
      · rw [zm_236]
        ((try simp only [zbd_conv]); simp (disch := first | assumption | omega | trivial) only [↓reduceIte, zbd_some, eq_self, Int.reduceEq, Int.reduceLT, Int.reduceLE, and_self, or_true, true_or, or_false, false_or, if_pos, if_neg, if_true, if_false, true_and, and_true, not_true_eq_false, not_false_eq_true, false_and, and_false, Option.bind_some, zq_t, zq_f, zq0, zq1, zw_id, zy_isSheet])
  · simp only [if_neg g1] at so
    refine zz_read (v := -1) h ?_ ?_ oo
    · rw [zm_134]
      ((try simp only [zbd_conv]); simp (disch := first | assumption | omega | trivial) only [↓reduceIte, zbd_some, eq_self, Int.reduceEq, Int.reduceLT, Int.reduceLE, and_self, or_true, true_or, or_false, false_or, if_pos, if_neg, if_true, if_false, true_and, and_true, not_true_eq_false, not_false_eq_true, false_and, and_false, Option.bind_some, zq_t, zq_f, zq0, zq1, zw_id, zcl_x1 hc, so])
    · rw [zm_236]
      ((try simp only [zbd_conv]); simp (disch := first | assumption | omega | trivial) only [↓reduceIte, zbd_some, eq_self, Int.reduceEq, Int.reduceLT, Int.reduceLE, and_self, or_true, true_or, or_false, false_or, if_pos, if_neg, if_true, if_false, true_and, and_true, not_true_eq_false, not_false_eq_true, false_and, and_false, Option.bind_some, zq_t, zq_f, zq0, zq1, zw_id, zy_isSheet])
theorem zz_lay (h : zR4 S I R X M) : zz_ok (d + 11) S I R T X M 135 237 [.inl k, .inl i, .inl v] := by
  obtain ⟨hc, hm, hap, hall⟩ := id h
  have oo : zo_ly I I M := zo_ly_refl
  have so := fun d => zx_sheetOf (d := d) (I := I) (T := T) (k := k) hc
  have X0 := hc.1.1
  by_cases g1 : 0 ≤ k ∧ k < 4
  · simp only [if_pos g1] at so
    have z0 : ¬ X + 292 + 2 * k = 0 := by omega
    have sh := zcl_sh hc g1
    have sk := sh.2.1
    have o := hall.2.2.2.2.2.2.2 k g1.1 g1.2
    unfold zc_sh1 at o
    rw [zr_row_q, zr_row_q, zr_row_q] at o
    obtain ⟨o1, o2⟩ := o
    rcases o2 with ⟨q1, q2⟩ | ⟨q1, q2, q3, q4, q5⟩
    · refine zz_read (v := -11) h ?_ ?_ oo
      · rw [zm_135]
        ((try simp only [zbd_conv]); simp (disch := first | assumption | omega | trivial) only [↓reduceIte, zbd_some, eq_self, Int.reduceEq, Int.reduceLT, Int.reduceLE, and_self, or_true, true_or, or_false, false_or, if_pos, if_neg, if_true, if_false, true_and, and_true, not_true_eq_false, not_false_eq_true, false_and, and_false, Option.bind_some, zq_t, zq_f, zq0, zq1, zw_id, zcl_x1 hc, so, z0, sk, q1])
      · rw [zm_237]
        ((try simp only [zbd_conv]); simp (disch := first | assumption | omega | trivial) only [↓reduceIte, zbd_some, eq_self, Int.reduceEq, Int.reduceLT, Int.reduceLE, and_self, or_true, true_or, or_false, false_or, if_pos, if_neg, if_true, if_false, true_and, and_true, not_true_eq_false, not_false_eq_true, false_and, and_false, Option.bind_some, zq_t, zq_f, zq0, zq1, zw_id, zy_isSheet, zmo_1 hm, zmo_r26 hm, zmo_s14 hm, q2])
    · obtain ⟨L, hL⟩ : ∃ L, I (M + 14) k = L := ⟨_, rfl⟩
      obtain ⟨n, hn⟩ : ∃ n, I (M + 15) k = n := ⟨_, rfl⟩
      rw [hL] at q2 q3
      rw [hn] at q4 q5
      rw [q4] at o1
      have z1 : ¬ I (X + 292 + 2 * k) 0 = 0 := by omega
      have z2 : ¬ L = -4 := by omega
      by_cases g2 : 0 ≤ i ∧ i < n
      · obtain ⟨J, hJ⟩ : ∃ J, J = zi_up I (X + 292 + 2 * k + 1) i (zf_low L v) := ⟨_, rfl⟩
        have j14 : J (M + 14) k = L := by rw [hJ, zu_off (by omega), hL]
        have j15 : J (M + 15) k = n := by rw [hJ, zu_off (by omega), hn]
        refine ⟨1, J, R, zi_up J (M + 16) (20 * k + i) (zf_low L v), ?_, ?_, ?_⟩
        · have wr := fun d => zx_Shwrite (d := d) (I := I) (T := T) (v := v) (i := i) sh (by omega)
          simp only [q3, ← hJ] at wr
          rw [zm_135]
          ((try simp only [zbd_conv]); simp (disch := first | assumption | omega | trivial) only [↓reduceIte, zbd_some, eq_self, Int.reduceEq, Int.reduceLT, Int.reduceLE, and_self, or_true, true_or, or_false, false_or, if_pos, if_neg, if_true, if_false, true_and, and_true, not_true_eq_false, not_false_eq_true, false_and, and_false, Option.bind_some, zq_t, zq_f, zq0, zq1, zw_id, zcl_x1 hc, so, z0, sk, z1, q4, wr])
        · rw [zm_237]
          rcases (show L = 0 ∨ L = 1 ∨ L = 2 ∨ L = 3 by omega) with e | e | e | e <;> subst e
          · ((try simp only [zbd_conv]); simp (disch := first | assumption | omega | trivial) only [↓reduceIte, zbd_some, eq_self, Int.reduceEq, Int.reduceLT, Int.reduceLE, and_self, or_true, true_or, or_false, false_or, if_pos, if_neg, if_true, if_false, true_and, and_true, not_true_eq_false, not_false_eq_true, false_and, and_false, Option.bind_some, zq_t, zq_f, zq0, zq1, zw_id, zy_isSheet, zy_in, zmo_1 hm, zmo_r26 hm, zmo_s14 hm, zmo_r27 hm, zmo_s15 hm, zmo_r28 hm, zmo_s16 hm, zwr, j14, j15, zf_low])
          · ((try simp only [zbd_conv]); simp (disch := first | assumption | omega | trivial) only [↓reduceIte, zbd_some, eq_self, Int.reduceEq, Int.reduceLT, Int.reduceLE, and_self, or_true, true_or, or_false, false_or, if_pos, if_neg, if_true, if_false, true_and, and_true, not_true_eq_false, not_false_eq_true, false_and, and_false, Option.bind_some, zq_t, zq_f, zq0, zq1, zw_id, zy_isSheet, zy_in, zmo_1 hm, zmo_r26 hm, zmo_s14 hm, zmo_r27 hm, zmo_s15 hm, zmo_r28 hm, zmo_s16 hm, zwr, j14, j15, zf_low, zf_char])
          · ((try simp only [zbd_conv]); simp (disch := first | assumption | omega | trivial) only [↓reduceIte, zbd_some, eq_self, Int.reduceEq, Int.reduceLT, Int.reduceLE, and_self, or_true, true_or, or_false, false_or, if_pos, if_neg, if_true, if_false, true_and, and_true, not_true_eq_false, not_false_eq_true, false_and, and_false, Option.bind_some, zq_t, zq_f, zq0, zq1, zw_id, zy_isSheet, zy_in, zmo_1 hm, zmo_r26 hm, zmo_s14 hm, zmo_r27 hm, zmo_s15 hm, zmo_r28 hm, zmo_s16 hm, zwr, j14, j15, zf_low])
          · ((try simp only [zbd_conv]); simp (disch := first | assumption | omega | trivial) only [↓reduceIte, zbd_some, eq_self, Int.reduceEq, Int.reduceLT, Int.reduceLE, and_self, or_true, true_or, or_false, false_or, if_pos, if_neg, if_true, if_false, true_and, and_true, not_true_eq_false, not_false_eq_true, false_and, and_false, Option.bind_some, zq_t, zq_f, zq0, zq1, zw_id, zy_isSheet, zy_in, zmo_1 hm, zmo_r26 hm, zmo_s14 hm, zmo_r27 hm, zmo_s15 hm, zmo_r28 hm, zmo_s16 hm, zwr, j14, j15, zf_low])
        · refine zR4_she h g1 (fun q q1 q2 q3 q4 => ?_) (fun q q1 q2 => ?_) (fun j hj => ?_) (fun j hj => ?_) (fun j hj => ?_) ?_
          · rw [zu_off (by omega), hJ, zu_off (by omega)]
          · rw [zu_off (by omega), hJ, zu_off (by omega)]
          · rw [zu_off (by omega), hJ, zu_off (by omega)]
          · rw [zu_off (by omega), hJ, zu_off (by omega)]
          · rw [zu_ne (by omega), hJ, zu_off (by omega)]
          · unfold zc_sh1
            rw [zr_row_q, zr_row_q, zr_row_q, zu_off (show ¬ X + 292 + 2 * k = M + 16 by omega), zu_off (show ¬ M + 14 = M + 16 by omega), zu_off (show ¬ M + 15 = M + 16 by omega), zu_off (show ¬ X + 292 + 2 * k + 1 = M + 16 by omega), j14, j15, hJ, zu_off (show ¬ X + 292 + 2 * k = X + 292 + 2 * k + 1 by omega)]
            refine ⟨by omega, Or.inr ⟨q1, q2, q3, q4, fun j j1 j2 => ?_⟩⟩
            by_cases e : j = i
            · rw [zu_eq ⟨rfl, e⟩, zu_eq ⟨rfl, by omega⟩]
            · rw [zu_ne (by omega), zu_ne (by omega), zu_off (by omega)]
              exact q5 j j1 j2
      · refine zz_read (v := -13) h ?_ ?_ oo
        · rw [zm_135]
          by_cases g3 : i < 0
          · ((try simp only [zbd_conv]); simp (disch := first | assumption | omega | trivial) only [↓reduceIte, zbd_some, eq_self, Int.reduceEq, Int.reduceLT, Int.reduceLE, and_self, or_true, true_or, or_false, false_or, if_pos, if_neg, if_true, if_false, true_and, and_true, not_true_eq_false, not_false_eq_true, false_and, and_false, Option.bind_some, zq_t, zq_f, zq0, zq1, zw_id, zcl_x1 hc, so, z0, sk, z1, q4])
          · ((try simp only [zbd_conv]); simp (disch := first | assumption | omega | trivial) only [↓reduceIte, zbd_some, eq_self, Int.reduceEq, Int.reduceLT, Int.reduceLE, and_self, or_true, true_or, or_false, false_or, if_pos, if_neg, if_true, if_false, true_and, and_true, not_true_eq_false, not_false_eq_true, false_and, and_false, Option.bind_some, zq_t, zq_f, zq0, zq1, zw_id, zcl_x1 hc, so, z0, sk, z1, q4])
        · rw [zm_237]
          ((try simp only [zbd_conv]); simp (disch := first | assumption | omega | trivial) only [↓reduceIte, zbd_some, eq_self, Int.reduceEq, Int.reduceLT, Int.reduceLE, and_self, or_true, true_or, or_false, false_or, if_pos, if_neg, if_true, if_false, true_and, and_true, not_true_eq_false, not_false_eq_true, false_and, and_false, Option.bind_some, zq_t, zq_f, zq0, zq1, zw_id, zy_isSheet, zy_in, zmo_1 hm, zmo_r26 hm, zmo_s14 hm, zmo_r27 hm, zmo_s15 hm, hL, hn])
  · simp only [if_neg g1] at so
    refine zz_read (v := -1) h ?_ ?_ oo
    · rw [zm_135]
      ((try simp only [zbd_conv]); simp (disch := first | assumption | omega | trivial) only [↓reduceIte, zbd_some, eq_self, Int.reduceEq, Int.reduceLT, Int.reduceLE, and_self, or_true, true_or, or_false, false_or, if_pos, if_neg, if_true, if_false, true_and, and_true, not_true_eq_false, not_false_eq_true, false_and, and_false, Option.bind_some, zq_t, zq_f, zq0, zq1, zw_id, zcl_x1 hc, so])
    · rw [zm_237]
      ((try simp only [zbd_conv]); simp (disch := first | assumption | omega | trivial) only [↓reduceIte, zbd_some, eq_self, Int.reduceEq, Int.reduceLT, Int.reduceLE, and_self, or_true, true_or, or_false, false_or, if_pos, if_neg, if_true, if_false, true_and, and_true, not_true_eq_false, not_false_eq_true, false_and, and_false, Option.bind_some, zq_t, zq_f, zq0, zq1, zw_id, zy_isSheet])
end ZSh
