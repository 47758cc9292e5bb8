/-! redo -/
section ZRd
variable {d : Nat} {S : zS} {I J J0 J1 J2 K K0 K1 R R' : zI} {T : Int × Nat} {X M n v l f c k x y z r i p w t m e b g len N o u : Int} {P Q s : Int → Int}
theorem zz_redo (h : zR4 S I R X M) : zz_ok (d + 11) S I R T X M 127 225 [] := by
  obtain ⟨hc, hm, hap, hall⟩ := id h
  have oo : zo_ly I I M := zo_ly_refl
  have X0 := hc.1.1
  have M0 := hm.1.1
  obtain ⟨⟨hrep, hwf⟩, hst, hmo, hse, -⟩ := zR4_facts h
  obtain ⟨f, hf⟩ : ∃ f, R X 6 = f := ⟨_, rfl⟩
  rw [hf] at hrep
  have hF := zcl_fr hc hf
  have fa := zcl_fa6 hc hf
  have his := hall.2.2.2.2.2.1
  unfold zc_his at his
  rw [zr_row0, zr_row_q, zr_row_q] at his
  obtain ⟨n, hn⟩ : ∃ n, I M 4 = n := ⟨_, rfl⟩
  obtain ⟨u, hu⟩ : ∃ u, I M 5 = u := ⟨_, rfl⟩
  rw [hn, hu] at his
  obtain ⟨⟨b1, b2⟩, bb, s1, s2⟩ := his
  have hhi := zcl_hi hc
  by_cases gn : u = 0
  · refine zz_read (v := -2) h ?_ ?_ oo
    · rw [zm_127]
      ((try simp only [zbd_conv]); simp (disch := first | assumption | omega | trivial) only [↓reduceIte, zbd_some, eq_self, Int.reduceEq, Int.reduceLT, Int.reduceLE, and_self, or_true, true_or, or_false, false_or, if_pos, if_neg, if_true, if_false, true_and, and_true, not_true_eq_false, not_false_eq_true, false_and, and_false, Option.bind_some, zq_t, zq_f, zq0, zq1, zw_id, zcl_x1 hc, zcl_c2 hc, hhi.2.1, b2])
    · rw [zm_225]
      ((try simp only [zbd_conv]); simp (disch := first | assumption | omega | trivial) only [↓reduceIte, zbd_some, eq_self, Int.reduceEq, Int.reduceLT, Int.reduceLE, and_self, or_true, true_or, or_false, false_or, if_pos, if_neg, if_true, if_false, true_and, and_true, not_true_eq_false, not_false_eq_true, false_and, and_false, Option.bind_some, zq_t, zq_f, zq0, zq1, zw_id, zmo_1 hm, hu])
  · obtain ⟨g, hg⟩ : ∃ g, R (X + 6) n = g := ⟨_, rfl⟩
    have fag : zs_fa X g := by rw [← hg]; exact zcl_fas hc (by omega)
    have log := zs_fa_lo fag
    obtain ⟨J0, hJ0⟩ : ∃ J0, J0 = zi_up (zi_up I (X + 5) 1 (n + 1)) (X + 5) 2 (u - 1) := ⟨_, rfl⟩
    have j0 : ∀ q, q ≠ X + 5 → J0 q = I q := fun q hq => by rw [hJ0, zu_off hq, zu_off hq]
    have e51 : J0 (X + 5) 1 = n + 1 := by rw [hJ0, zu_ne (by omega), zu_eq ⟨rfl, rfl⟩]
    have e52 : J0 (X + 5) 2 = u - 1 := by rw [hJ0, zu_eq ⟨rfl, rfl⟩]
    have tk := fun d => zx_doAgain (d := d) (I := I) (T := T) (f := f) hhi (by rw [b1]; omega) (by rw [b2]; omega) (by rw [b1, show X + 5 + 1 = X + 6 by omega, hg]; omega) (zfr_k hF)
    simp only [b1, b2, show X + 5 + 1 = X + 6 by omega, hg, ← hJ0] at tk
    have hc' := zs_cl_swap hc hf (k := n) (by omega) hg
    obtain ⟨R', hR'⟩ : ∃ R', R' = zi_up (zi_up R (X + 6) n f) X 6 g := ⟨_, rfl⟩
    rw [← hR'] at hc'
    have hg' : R' X 6 = g := by rw [hR', zu_eq ⟨rfl, rfl⟩]
    have hm' : zs_mo S R' M := zs_mo_R hm (by rw [hR', zu_off (by omega), zu_off (by omega)])
    have Rs : ∀ k, k ≠ n → R' (X + 6) k = R (X + 6) k := fun k hk => by rw [hR', zu_ne (by omega), zu_ne (by omega)]
    have Rn : R' (X + 6) n = f := by rw [hR', zu_ne (by omega), zu_eq ⟨rfl, rfl⟩]
    obtain ⟨P, hP⟩ : ∃ P : Int → Int, P = fun j => if 0 ≤ j ∧ j < 0 + 520 then I (M + 4) (520 * (u - 1) + (j - 0)) else I (M + 1) j := ⟨_, rfl⟩
    have og := s2 0 (by omega) (by omega)
    rw [show n + 0 = n by omega, hg] at og
    obtain ⟨rp, wp⟩ := zv_rep_page (Q := P) og.1 og.2 (fun j j1 j2 => by
      show P j = I (M + 4) (520 * (u - 1 - 0) + j)
      rw [hP]; dsimp only
      rw [if_pos (by omega)]
      congr 1; omega)
    obtain ⟨J, l1, l2⟩ := zx_layAll (d := d + 3) (T := T) hc' hg' (zv_rep_congr rp (fun q q1 q2 => j0 q (by omega))) wp (by unfold zr_se at *; rw [j0 (X + 4) (by omega)]; exact hse)
    rw [j0 (X + 4) (by omega), hst.1, hst.2.1, hst.2.2.1, hst.2.2.2] at l2
    have jq : ∀ q, X + 300 ≤ q → J q = I q := fun q q1 => by rw [zc_done_q l2 fag q1, j0 q (by omega)]
    have j5 : J (X + 5) 2 = u - 1 := by
      obtain ⟨v', c, -, d2, -⟩ := l2
      rw [d2 (X + 5) (by omega) (by omega) (by omega), e52]
    obtain ⟨A, a1, a2, a3, a4, a5⟩ := zy_isDone (d := d + 8) (I := J) (R := R') (T := T) hm' (n := n) (by rw [jq M hap, hn]) (by omega)
    rw [if_pos (by omega)] at a4
    rw [jq (M + 3) (by omega), jq (M + 1) (by omega)] at a5
    obtain ⟨B, hB⟩ : ∃ B, B = zi_up A M 5 (u - 1) := ⟨_, rfl⟩
    have cp2 := zy_copies (d := d + 9) (I := B) (R := R') (T := T) (o := 520 * (u - 1)) (w := 0) (zmo_s4 hm') (zmo_s1 hm') (by omega) (by omega) (by omega)
    obtain ⟨K0, hK0⟩ : ∃ K0, K0 = zi_cpy B (M + 4) (M + 1) (520 * (u - 1)) 0 520 := ⟨_, rfl⟩
    rw [← hK0] at cp2
    have Bq : ∀ q, q ≠ M → B q = A q := fun q q1 => by rw [hB, zu_off q1]
    have Aq : ∀ q, q ≠ M → q ≠ M + 3 → A q = J q := a2
    have Kq : ∀ q, q ≠ M + 1 → K0 q = B q := fun q q1 => by
      rw [hK0]
      funext j
      rw [zi_cpy_at2, if_neg (by omega)]
    have KM4 : K0 M 4 = n + 1 := by rw [Kq _ (by omega), hB, zu_ne (by omega), a4]
    have KM5 : K0 M 5 = u - 1 := by rw [Kq _ (by omega), hB, zu_eq ⟨rfl, rfl⟩]
    have KMj : ∀ j, j ≠ 4 → j ≠ 5 → K0 M j = I M j := fun j h1 h2 => by rw [Kq _ (by omega), hB, zu_ne (by omega), a3 j h1, jq M hap]
    have K3 : K0 (M + 3) = zt_push (I (M + 3)) (I (M + 1)) n := by rw [Kq _ (by omega), Bq _ (by omega), a5]
    have K4 : K0 (M + 4) = I (M + 4) := by rw [Kq _ (by omega), Bq _ (by omega), Aq _ (by omega) (by omega), jq _ (by omega)]
    have KP : K0 (M + 1) = P := by
      rw [hK0, hP]
      funext j
      rw [zi_cpy_at2]
      by_cases q : 0 ≤ j ∧ j < 0 + 520
      · rw [if_pos ⟨rfl, q⟩, if_pos q, Bq _ (by omega), Aq _ (by omega) (by omega), jq _ (by omega)]
      · rw [if_neg (by omega), if_neg q, Bq _ (by omega), Aq _ (by omega) (by omega), jq _ (by omega)]
    obtain ⟨K, z1, z2, z3⟩ := zz_swapped (d := d + 4) (T := T) h hc' hm' hg' j0 l2 wp (K0 := K0) (fun q q1 q2 q3 q4 => by rw [Kq q q2, Bq q q1, Aq q q1 q3]) KMj KP (by
      unfold zc_his
      rw [zr_row0, zr_row_q, zr_row_q, KM4, KM5, K3, K4]
      refine ⟨⟨e51, e52⟩, by omega, fun k k1 k2 => ?_, fun j j1 j2 => ?_⟩
      · by_cases q0 : k = n
        · rw [q0, Rn]
          have lk := zs_fa_lo fa
          exact zv_rep_page (zv_rep_congr hrep (fun q q1 q2 => j0 q (by omega))) hwf (fun i i1 i2 => zt_push_new (by omega) ⟨i1, i2⟩)
        · rw [Rs k q0]
          have q := s1 k k1 (by omega)
          have lk := zs_fa_lo (zcl_fas (k := k) hc (by omega))
          refine zv_rep_page (zv_rep_congr q.1 (fun q q1 q2 => j0 q (by omega))) q.2 (fun i i1 i2 => ?_)
          show zt_push (I (M + 3)) (I (M + 1)) n (520 * k + i) = I (M + 3) (520 * k + i)
          rw [zt_push_at, if_pos (by omega), if_neg (by omega)]
      · have q := s2 (j + 1) (by omega) (by omega)
        have ej : n + (j + 1) = n + 1 + j := by omega
        have eu : u - 1 - (j + 1) = u - 1 - 1 - j := by omega
        rw [ej, eu] at q
        have lk := zs_fa_lo (zcl_fas (k := n + 1 + j) hc (by omega))
        rw [Rs _ (by omega)]
        exact ⟨zv_rep_congr q.1 (fun q q1 q2 => j0 q (by omega)), q.2⟩)
    have k5 : K M 5 = u - 1 := by rw [z3 5 (by omega) (by omega) (by omega), KM5]
    have j55 : J M 5 = u := by rw [jq M hap, hu]
    have A5 : A M 5 = u := by rw [a3 5 (by omega), j55]
    have B5 : B M 5 = u - 1 := by rw [hB, zu_eq ⟨rfl, rfl⟩]
    refine ⟨u - 1, J, R', K, ?_, ?_, z2⟩
    · rw [zm_127]
      ((try simp only [zbd_conv]); simp (disch := first | assumption | omega | trivial) only [↓reduceIte, zbd_some, eq_self, Int.reduceEq, Int.reduceLT, Int.reduceLE, and_self, or_true, true_or, or_false, false_or, if_pos, if_neg, if_true, if_false, true_and, and_true, not_true_eq_false, not_false_eq_true, false_and, and_false, Option.bind_some, zq_t, zq_f, zq0, zq1, zw_id, zcl_x1 hc, zcl_c2 hc, zcl_c2 hc', hhi.2.1, b2, hf, tk, zwq', ← hR', l1, j5])
    · rw [zm_225]
      ((try simp only [zbd_conv]); simp (disch := first | assumption | omega | trivial) only [↓reduceIte, zbd_some, eq_self, Int.reduceEq, Int.reduceLT, Int.reduceLE, and_self, or_true, true_or, or_false, false_or, if_pos, if_neg, if_true, if_false, true_and, and_true, not_true_eq_false, not_false_eq_true, false_and, and_false, Option.bind_some, zq_t, zq_f, zq0, zq1, zw_id, zmo_1 hm', zmo_r0 hm', zmo_r2 hm', zmo_r3 hm', j55, a1, A5, zwr, ← hB, B5, cp2, z1, k5])
end ZRd
