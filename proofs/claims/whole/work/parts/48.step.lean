/-! the caret goes: edge, step, down -/
section ZMx
variable {d : Nat} {S : zS} {I J K R : zI} {T : Int × Nat} {X M n v l f c k x y z r i p w t m e : Int} {P Q rz : Int → Int}
/-- the caret goes to a stop, on both sides -/
theorem zz_mvfin (h : zR4 S I R X M) (hf : R X 6 = f) (hl : 0 ≤ l ∧ l < I (M + 1) 0) (hp : 0 ≤ p ∧ p ≤ I (M + 1) (1 + l)) (hst : I (X + 135 + 11 + 9 * l + 5) p = 1) {K0 K1 : zI} (k0 : zo_ly (zp_mv I X f l p (I (X + 135 + 11 + 9 * l + 2) p)) K0 M) (k1P : K1 (M + 1) = zt_up (zt_up (I (M + 1)) 518 l) 519 p) (k1o : ∀ q, q ≠ M + 1 → K1 q = K0 q) : ∃ K2, zG (d + 6) 205 [.inr (.inr M)] (S, K1, R, T) = some (0, (S, K2, R, T)) ∧ K2 (M + 1) = zt_up (zt_up (I (M + 1)) 518 l) 519 p ∧ zR4 S K2 R X M := by
  obtain ⟨hc, hm, hap, hall⟩ := id h
  have lof := zs_fa_lo (zcl_fa6 hc hf)
  obtain ⟨c, hcc⟩ : ∃ c, c = I (X + 135 + 11 + 9 * l + 2) p := ⟨_, rfl⟩
  rw [← hcc] at k0
  obtain ⟨J1, hJ1⟩ : ∃ J1, J1 = zp_mv I X f l p c := ⟨_, rfl⟩
  rw [← hJ1] at k0
  have j1 : ∀ q, q ≠ X → q ≠ f → J1 q = I q := fun q q1 q2 => by rw [hJ1]; exact zp_mv_off q1 q2
  have jM : ∀ q, M ≤ q → J1 q = I q := fun q q1 => j1 q (by omega) (by omega)
  have k0q : ∀ q, M + 2 ≤ q → (q < M + 7 ∨ M + 11 < q) → K0 q = I q := fun q q1 q2 => (k0.1 q (by omega) q2).trans (jM q (by omega))
  have k0M : ∀ j, j ≠ 22 → j ≠ 23 → K0 M j = I M j := fun j j1 j2 => by rw [k0.2 j j1 j2, jM M (by omega)]
  obtain ⟨K2, f1, f2, f3, f4, f5, f6⟩ := zzm_put (d := d) (T := T) h hl hp hst (K0 := K1) (fun q q1 q2 => (k1o q (by omega)).trans (k0q q q1 q2)) (fun j j1 j2 => by rw [k1o M (by omega)]; exact k0M j j1 j2) k1P
  rw [← hcc] at f6
  refine ⟨K2, f1, f4, ?_⟩
  refine zR4_move h hf hl hp (c := c) (fun q q1 q2 q3 => ?_) (fun j hj => ?_) ?_ ?_ f3 f4 f5 f6
  · rw [f2 q q3, k1o q (by omega), k0.1 q (by omega) (by omega), j1 q q1 q2]
  · rw [f2 X (by omega), k1o X (by omega), k0.1 X (by omega) (by omega), hJ1, zp_mv_X (by omega) hj]
  · rw [f2 X (by omega), k1o X (by omega), k0.1 X (by omega) (by omega), hJ1, zp_mv_8]
  · rw [f2 f (by omega), k1o f (by omega), k0.1 f (by omega) (by omega), hJ1, zp_mv_f (by omega)]
theorem zx_mv (hc : zs_cl S R X) (hf : R X 6 = f) (hl : 0 ≤ l ∧ l < 12) (hp : 0 ≤ p ∧ p ≤ 40) : zG (d + 4) 141 [.inr (.inr X), .inl l, .inl p] (S, I, R, T) = some (0, (S, zp_mv I X f l p (I (X + 135 + 11 + 9 * l + 2) p), R, T)) := zx_moveCaret hc hf hl hp
theorem zt_mv_id (h : P 518 = l) : zt_up P 519 p = zt_up (zt_up P 518 l) 519 p := by
  funext j
  by_cases g : j = 519
  · rw [zt_up_eq g, zt_up_eq g]
  · rw [zt_up_ne g, zt_up_ne g]
    by_cases g2 : j = 518
    · rw [zt_up_eq g2, g2, h]
    · rw [zt_up_ne g2]
theorem zz_edge (h : zR4 S I R X M) : zz_ok (d + 11) S I R T X M 122 211 [.inl x] := by
  obtain ⟨hc, hm, hap, hall⟩ := id h
  obtain ⟨⟨hrep, hwf⟩, -, hmo, -, hlay, hrz, -, -⟩ := zR4_facts h
  obtain ⟨f, hf⟩ : ∃ f, R X 6 = f := ⟨_, rfl⟩
  rw [hf] at hrep
  have hF := zcl_fr hc hf
  have lof := zs_fa_lo (zcl_fa6 hc hf)
  have h0 := hwf.1
  have oo : zo_ly I I M := zo_ly_refl
  by_cases gx : x = 0 ∨ x = 1
  · obtain ⟨w6, w7, w8⟩ := hwf.2.2.2.2.2
    have c6 : I f 2 = I (M + 1) 518 := hrep.2.2.2.2.2.1
    have c7 : I f 3 = I (M + 1) 519 := hrep.2.2.2.2.2.2
    obtain ⟨l, hl⟩ : ∃ l, l = I (M + 1) 518 := ⟨_, rfl⟩
    rw [← hl] at w6 w8 c6
    obtain ⟨i, hi⟩ : ∃ i, i = I (M + 1) 519 := ⟨_, rfl⟩
    rw [← hi] at w7 w8 c7
    have hn := hwf.2.1 l w6.1 w6.2
    have hll := zs_cl_ll hc (show 0 ≤ l ∧ l < 12 by omega)
    obtain ⟨q, hq⟩ : ∃ q, q = X + 135 + 11 + 9 * l := ⟨_, rfl⟩
    have ell : ∀ d, zG (d + 1) 78 [.inr (.inr (X + 135)), .inl l] (S, I, R, T) = some (q, (S, I, R, T)) := fun d => by
      rw [hq]; exact zx_laidLine (zcl_sc hc) (by omega)
    have pic : zr_pic I M q l := by rw [hq]; exact hlay l w6.1 w6.2
    rw [← hq] at hll
    have hk4 := hll.2.1
    have hw4 := hmo.1
    have hii := zz_ind (n := I (M + 1) (1 + l)) (l := l) hmo
    have prow := zl_pic_row pic hn hmo.2.1 (by omega) ⟨w7, w8⟩
    obtain ⟨o, ho⟩ : ∃ o, o = I (q + 1) i := ⟨_, rfl⟩
    rw [← ho] at prow
    have ff := zl_first pic.2.2.1 hn.1 hmo.1.1 hmo.2.1.1 hii (r := o) (by omega)
    have hb := zl_beg pic.2.2.1 (r := o) (by omega)
    have stb : I (q + 5) (I (q + 7) o) = 1 := by rw [pic.2.2.2.1 _ hb.1 hb.2]; exact zq_t ff.2
    have main : ∀ v, (0 ≤ v ∧ v ≤ I (M + 1) (1 + l)) → I (q + 5) v = 1 → ∃ K0 K2, zo_ly (zp_mv I X f l v (I (q + 2) v)) K0 M ∧ zG (d + 10) 180 [.inr (.inr M), .inl l] (S, zp_mv I X f l v (I (q + 2) v), R, T) = some (0, (S, K0, R, T)) ∧ zr_mok I K0 M l ∧ K0 (M + 1) = I (M + 1) ∧ zG (d + 10) 205 [.inr (.inr M)] (S, zi_up K0 (M + 1) 519 v, R, T) = some (0, (S, K2, R, T)) ∧ K2 (M + 1) 519 = v ∧ zR4 S K2 R X M := by
      intro v hv hst
      have jM : ∀ z, M ≤ z → zp_mv I X f l v (I (q + 2) v) z = I z := fun z z1 => zp_mv_off (by omega) (by omega)
      obtain ⟨K0, d1, d2, d3⟩ := zzm_laysJ (d := d + 5) (T := T) hm hmo hwf jM w6
      have k0P : K0 (M + 1) = I (M + 1) := (d2.1 (M + 1) (by omega) (by omega)).trans (jM _ (by omega))
      rw [hq] at d2
      obtain ⟨K2, f1, f2, f3⟩ := zz_mvfin (d := d + 4) (T := T) h hf w6 hv (by rw [← hq]; exact hst) d2 (K1 := zi_up K0 (M + 1) 519 v) (by rw [zu_row, k0P]; exact zt_mv_id hl.symm) (fun z hz => zu_off hz)
      rw [← hq] at d2
      exact ⟨K0, K2, d2, d1, d3, k0P, f1, by rw [f2]; exact zt_mv9, f3⟩
    have rof : ∀ d, zG (d + 2) 41 [.inr (.inr q), .inl i] (S, I, R, T) = some (o, (S, I, R, T)) := fun d => by
      rw [zx_rowOf hll, zk_pk_in (by omega), ho]
    by_cases g0 : x = 0
    · subst g0
      obtain ⟨K0, K2, a1, a2, a3, a4, a5, a6, a7⟩ := main (I (q + 7) o) hb stb
      have mv := zx_mv (d := d + 6) (I := I) (T := T) (l := l) (p := I (q + 7) o) hc hf (by omega) (by omega)
      rw [← hq] at mv
      have ki : K0 (M + 7) i = o := by rw [((zl_both hn.1 pic a3).2.2.1 i w7 w8).1, ho]
      obtain ⟨v, y1, y2, y3⟩ := zz_near (d := d + 7) (T := T) (c := -1) (y := -1) hm hll hmo (by omega) hn pic a3 (by rw [a4]) (by rw [a4]) (k := o) (by omega) (fun _ _ _ => Iff.rfl)
      have hv : v = I (q + 7) o := by
        rcases y3 with ⟨z1, z2, ⟨z3, z4, z5⟩, z6⟩ | ⟨z1, z2⟩
        · have := (zl_pic_row pic hn hmo.2.1 (by omega) (i := v) (by omega)).2.2.2
          omega
        · exact z1
      rw [hv] at y2
      refine ⟨I (q + 7) o, zp_mv I X f l (I (q + 7) o) (I (q + 2) (I (q + 7) o)), R, K2, ?_, ?_, a7⟩
      · rw [zm_122]
        ((try simp only [zbd_conv]); simp (disch := first | assumption | omega | trivial) only [↓reduceIte, zbd_some, eq_self, Int.reduceEq, Int.reduceLT, Int.reduceLE, and_self, or_true, true_or, or_false, false_or, if_pos, if_neg, if_true, if_false, true_and, and_true, not_true_eq_false, not_false_eq_true, false_and, and_false, Option.bind_some, zq_t, zq_f, zq0, zq1, zw_id])
        rw [zk_122_11]
        ((try simp only [zbd_conv]); simp (disch := first | assumption | omega | trivial) only [↓reduceIte, zbd_some, eq_self, Int.reduceEq, Int.reduceLT, Int.reduceLE, and_self, or_true, true_or, or_false, false_or, if_pos, if_neg, if_true, if_false, true_and, and_true, not_true_eq_false, not_false_eq_true, false_and, and_false, Option.bind_some, zq_t, zq_f, zq0, zq1, zw_id, zcl_x1 hc, hf, zfr_k hF, zfr_r0 hF, zfr_r1 hF, zfr_lk hF, zfr_fk hF, zcl_c3 hc, (zcl_sc hc).2.1, c6, c7, ell, hk4, rof, zx_firstPlace hll, zk_pk_in, mv])
      · rw [zm_211]
        have jP : zp_mv I X f l (I (q + 7) o) (I (q + 2) (I (q + 7) o)) (M + 1) = I (M + 1) := zp_mv_off (by omega) (by omega)
        ((try simp only [zbd_conv]); simp (disch := first | assumption | omega | trivial) only [↓reduceIte, zbd_some, eq_self, Int.reduceEq, Int.reduceLT, Int.reduceLE, and_self, or_true, true_or, or_false, false_or, if_pos, if_neg, if_true, if_false, true_and, and_true, not_true_eq_false, not_false_eq_true, false_and, and_false, Option.bind_some, zq_t, zq_f, zq0, zq1, zw_id, zmo_1 hm, zmo_r0 hm, zmo_s1 hm, zy_in, jP, hl.symm, a2, a4, hi.symm, zmo_r17 hm, zmo_s7 hm, ki, y2, zwr, a5, a6])
    · obtain rfl : x = 1 := by omega
      obtain ⟨v, y1⟩ := zx_placeNear (d := d + 7) (I := I) (T := T) (r := o) (x := 2147483647) hll (by omega) (by rw [pic.1]; exact hb) (by rw [pic.1]; exact hn.2)
      rw [pic.1] at y1
      have hv : 0 ≤ v ∧ v ≤ I (M + 1) (1 + l) := by
        rcases y1.2 with ⟨z1, z2, -⟩ | ⟨z1, -⟩ <;> omega
      have hsv : I (q + 5) v = 1 := by
        rcases y1.2 with ⟨z1, z2, ⟨z3, z4, z5⟩, -⟩ | ⟨z1, -⟩
        · exact z4
        · rw [z1]; exact stb
      obtain ⟨K0, K2, a1, a2, a3, a4, a5, a6, a7⟩ := main v hv hsv
      have mv := zx_mv (d := d + 6) (I := I) (T := T) (l := l) (p := v) hc hf (by omega) (by omega)
      rw [← hq] at mv
      have ki : K0 (M + 7) i = o := by rw [((zl_both hn.1 pic a3).2.2.1 i w7 w8).1, ho]
      obtain ⟨v', z1, z2, z3⟩ := zz_near (d := d + 7) (T := T) (c := 2147483647) (y := 1000000) hm hll hmo (by omega) hn pic a3 (by rw [a4]) (by rw [a4]) (k := o) (by omega) (fun j j1 j2 => by
        have := (zl_pic_row pic hn hmo.2.1 (by omega) (i := j) ⟨j1, j2⟩).2.2.2
        omega)
      have hvv : v' = v := zl_lst_uniq z3 y1.2 (fun _ _ _ => Iff.rfl)
      rw [hvv] at z2
      refine ⟨v, zp_mv I X f l v (I (q + 2) v), R, K2, ?_, ?_, a7⟩
      · rw [zm_122]
        ((try simp only [zbd_conv]); simp (disch := first | assumption | omega | trivial) only [↓reduceIte, zbd_some, eq_self, Int.reduceEq, Int.reduceLT, Int.reduceLE, and_self, or_true, true_or, or_false, false_or, if_pos, if_neg, if_true, if_false, true_and, and_true, not_true_eq_false, not_false_eq_true, false_and, and_false, Option.bind_some, zq_t, zq_f, zq0, zq1, zw_id])
        rw [zk_122_11]
        ((try simp only [zbd_conv]); simp (disch := first | assumption | omega | trivial) only [↓reduceIte, zbd_some, eq_self, Int.reduceEq, Int.reduceLT, Int.reduceLE, and_self, or_true, true_or, or_false, false_or, if_pos, if_neg, if_true, if_false, true_and, and_true, not_true_eq_false, not_false_eq_true, false_and, and_false, Option.bind_some, zq_t, zq_f, zq0, zq1, zw_id, zcl_x1 hc, hf, zfr_k hF, zfr_r0 hF, zfr_r1 hF, zfr_lk hF, zfr_fk hF, zcl_c3 hc, (zcl_sc hc).2.1, c6, c7, ell, hk4, rof, y1.1, mv])
      · rw [zm_211]
        have jP : zp_mv I X f l v (I (q + 2) v) (M + 1) = I (M + 1) := zp_mv_off (by omega) (by omega)
        ((try simp only [zbd_conv]); simp (disch := first | assumption | omega | trivial) only [↓reduceIte, zbd_some, eq_self, Int.reduceEq, Int.reduceLT, Int.reduceLE, and_self, or_true, true_or, or_false, false_or, if_pos, if_neg, if_true, if_false, true_and, and_true, not_true_eq_false, not_false_eq_true, false_and, and_false, Option.bind_some, zq_t, zq_f, zq0, zq1, zw_id, zmo_1 hm, zmo_r0 hm, zmo_s1 hm, zy_in, jP, hl.symm, a2, a4, hi.symm, zmo_r17 hm, zmo_s7 hm, ki, z2, zwr, a5, a6])
  · refine zz_read (v := -1) h ?_ ?_ oo
    · rw [zm_122]
      ((try simp only [zbd_conv]); simp (disch := first | assumption | omega | trivial) only [↓reduceIte, zbd_some, eq_self, Int.reduceEq, Int.reduceLT, Int.reduceLE, and_self, or_true, true_or, or_false, false_or, if_pos, if_neg, if_true, if_false, true_and, and_true, not_true_eq_false, not_false_eq_true, false_and, and_false, Option.bind_some, zq_t, zq_f, zq0, zq1, zw_id])
    · rw [zm_211]
      ((try simp only [zbd_conv]); simp (disch := first | assumption | omega | trivial) only [↓reduceIte, zbd_some, eq_self, Int.reduceEq, Int.reduceLT, Int.reduceLE, and_self, or_true, true_or, or_false, false_or, if_pos, if_neg, if_true, if_false, true_and, and_true, not_true_eq_false, not_false_eq_true, false_and, and_false, Option.bind_some, zq_t, zq_f, zq0, zq1, zw_id, zy_in])
end ZMx
