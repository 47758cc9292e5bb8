/-! undo and redo: frames change places -/
section ZUn
variable {d : Nat} {S : zS} {I J J0 J1 J2 K K0 K1 R R' : zI} {T : Int × Nat} {X M n v l f c k x y z r i p w t m e b g len N o u : Int} {P Q s : Int → Int}
theorem zwq' {S : zS} {I R : zI} {T : Int × Nat} {a k v : Int} : zi_wq (S, I, R, T) a k v = (S, I, zi_up R a k v, T) := rfl
theorem zs_cl_swap (h : zs_cl S R X) (hf : R X 6 = f) (hk : 0 ≤ k ∧ k < 16) (hg : R (X + 6) k = g) : zs_cl S (zi_up (zi_up R (X + 6) k f) X 6 g) X := by
  have X0 := h.1.1
  have fa6 := zcl_fa6 h hf
  have fa7 := zcl_fa7 h rfl
  have fas := fun k k1 k2 => zcl_fas (k := k) h ⟨k1, k2⟩
  obtain ⟨n1, n2, n3⟩ := h.2.2.2.2.2.2.2.2.2.2
  rw [hf] at n1 n2
  have e6 : zi_up (zi_up R (X + 6) k f) X 6 g X 6 = g := zu_eq ⟨rfl, rfl⟩
  have e7 : zi_up (zi_up R (X + 6) k f) X 6 g X 7 = R X 7 := by rw [zu_ne (by omega), zu_ne (by omega)]
  have es : ∀ j, j ≠ k → zi_up (zi_up R (X + 6) k f) X 6 g (X + 6) j = R (X + 6) j := fun j hj => by rw [zu_ne (by omega), zu_ne (by omega)]
  have ek : zi_up (zi_up R (X + 6) k f) X 6 g (X + 6) k = f := by rw [zu_ne (by omega), zu_eq ⟨rfl, rfl⟩]
  have gk := n2 k hk.1 hk.2
  rw [hg] at gk
  refine zs_cl_R h (fun q q1 q2 => by rw [zu_off q1, zu_off q2]) (fun j j1 j2 => by rw [zu_ne (by omega), zu_ne (by omega)]) ⟨by rw [e6, ← hg]; exact fas k hk.1 hk.2, by rw [e7]; exact fa7, fun j j1 j2 => ?_⟩ ⟨by rw [e6, e7]; exact gk.2, fun j j1 j2 => ?_, fun i j i1 i2 i3 => ?_⟩
  · by_cases q : j = k
    · rw [q, ek]; exact fa6
    · rw [es j q]; exact fas j j1 j2
  · rw [e6, e7]
    by_cases q : j = k
    · rw [q, ek]; exact ⟨fun q => gk.1 q.symm, n1⟩
    · rw [es j q]
      refine ⟨?_, (n2 j j1 j2).2⟩
      rw [← hg]
      rcases (show j < k ∨ k < j by omega) with q | q
      · exact n3 j k j1 q hk.2
      · exact fun z => n3 k j hk.1 q j2 z.symm
  · by_cases q : i = k
    · rw [q, ek, es j (by omega)]
      exact fun z => (n2 j (by omega) i3).1 z.symm
    · by_cases q2 : j = k
      · rw [q2, ek, es i q]
        exact (n2 i i1 (by omega)).1
      · rw [es i q, es j q2]
        exact n3 i j i1 i2 i3
/-- a page takes the place of what is, and all is laid anew -/
theorem zz_swapped (h : zR4 S I R X M) (hc' : zs_cl S R' X) (hm' : zs_mo S R' M) (hg : R' X 6 = g) (j0 : ∀ q, q ≠ X + 5 → J0 q = I q) (hd : zc_done J0 J X g P (I M 6) (I M 7) (I M 8) (I M 9)) (hw : zw_page P) (k0 : ∀ q, q ≠ M → q ≠ M + 1 → q ≠ M + 3 → q ≠ M + 4 → K0 q = J q) (k0M : ∀ j, j ≠ 4 → j ≠ 5 → K0 M j = I M j) (k0P : K0 (M + 1) = P) (his : zc_his J0 R' X (zr_row K0 M)) : ∃ K, zG (d + 6) 205 [.inr (.inr M)] (S, K0, R', T) = some (0, (S, K, R', T)) ∧ zR4 S K R' X M ∧ ∀ j, j ≠ 22 → j ≠ 23 → j ≠ 10 → K M j = K0 M j := by
  obtain ⟨hc, hm, hap, hall⟩ := id h
  obtain ⟨-, hst, hmo, -, -, -, hnum, -⟩ := zR4_facts h
  have fa := zcl_fa6 hc' hg
  have lo := zs_fa_lo fa
  have jq : ∀ q, X + 300 ≤ q → J q = I q := fun q q1 => by rw [zc_done_q hd fa q1, j0 q (by omega)]
  have rq : ∀ q, 5 ≤ q → zr_row K0 M q = zr_row I M q := fun q q1 => by rw [zr_row_q, zr_row_q, k0 _ (by omega) (by omega) (by omega) (by omega), jq _ (by omega)]
  have z0 : ∀ j, j ≠ 4 → j ≠ 5 → zr_row K0 M 0 j = zr_row I M 0 j := fun j h1 h2 => by rw [zr_row0, zr_row0]; exact k0M j h1 h2
  obtain ⟨K, e1, e2, -, e4⟩ := zz_settled (d := d) (T := T) hc' hg hm' hap hw (J0 := J0) (K0 := K0) hd (fun q q1 => k0 q (by omega) (by omega) (by omega) (by omega)) k0P
    (by unfold zr_mo at *; rw [k0M 6 (by omega) (by omega), k0M 7 (by omega) (by omega), k0M 8 (by omega) (by omega), k0M 9 (by omega) (by omega)]; exact hmo)
    ⟨k0M 6 (by omega) (by omega), k0M 7 (by omega) (by omega), k0M 8 (by omega) (by omega), k0M 9 (by omega) (by omega)⟩ (by rw [j0 (X + 4) (by omega)]; exact hst)
    (by rw [j0 X (by omega), k0M 13 (by omega) (by omega)]; exact hnum.2)
    (zc_tap_A (zc_tap_I hall.2.2.2.2.1 (by rw [j0 (X + 1) (by omega)]) (j0 (X + 2) (by omega))) (z0 12 (by omega) (by omega)) (rq 5 (by omega)))
    his
    (zc_img_A (zc_img_I hall.2.2.2.2.2.2.1 (fun q q1 q2 => j0 q (by omega))) (rq 12 (by omega)) (rq 13 (by omega)))
    (zc_shs_A (zc_shs_I hall.2.2.2.2.2.2.2 (fun q q1 q2 => j0 q (by omega))) (rq 14 (by omega)) (rq 15 (by omega)) (rq 16 (by omega)))
  exact ⟨K, e1, e2, e4⟩
theorem zz_undo (h : zR4 S I R X M) : zz_ok (d + 11) S I R T X M 126 224 [] := by
  obtain ⟨hc, hm, hap, hall⟩ := id h
  have oo : zo_ly I I M := zo_ly_refl
  have X0 := hc.1.1
  have M0 := hm.1.1
  obtain ⟨⟨hrep, hwf⟩, hst, hmo, hse, -⟩ := zR4_facts h
  obtain ⟨f, hf⟩ : ∃ f, R X 6 = f := ⟨_, rfl⟩
  rw [hf] at hrep
  have hF := zcl_fr hc hf
  have fa := zcl_fa6 hc hf
  have his := hall.2.2.2.2.2.1
  unfold zc_his at his
  rw [zr_row0, zr_row_q, zr_row_q] at his
  obtain ⟨n, hn⟩ : ∃ n, I M 4 = n := ⟨_, rfl⟩
  obtain ⟨u, hu⟩ : ∃ u, I M 5 = u := ⟨_, rfl⟩
  rw [hn, hu] at his
  obtain ⟨⟨b1, b2⟩, bb, s1, s2⟩ := his
  have hhi := zcl_hi hc
  by_cases gn : n = 0
  · refine zz_read (v := -2) h ?_ ?_ oo
    · rw [zm_126]
      ((try simp only [zbd_conv]); simp (disch := first | assumption | omega | trivial) only [↓reduceIte, zbd_some, eq_self, Int.reduceEq, Int.reduceLT, Int.reduceLE, and_self, or_true, true_or, or_false, false_or, if_pos, if_neg, if_true, if_false, true_and, and_true, not_true_eq_false, not_false_eq_true, false_and, and_false, Option.bind_some, zq_t, zq_f, zq0, zq1, zw_id, zcl_x1 hc, zcl_c2 hc, hhi.2.1, b1])
    · rw [zm_224]
      ((try simp only [zbd_conv]); simp (disch := first | assumption | omega | trivial) only [↓reduceIte, zbd_some, eq_self, Int.reduceEq, Int.reduceLT, Int.reduceLE, and_self, or_true, true_or, or_false, false_or, if_pos, if_neg, if_true, if_false, true_and, and_true, not_true_eq_false, not_false_eq_true, false_and, and_false, Option.bind_some, zq_t, zq_f, zq0, zq1, zw_id, zmo_1 hm, hn])
  · obtain ⟨g, hg⟩ : ∃ g, R (X + 6) (n - 1) = g := ⟨_, rfl⟩
    have fag : zs_fa X g := by rw [← hg]; exact zcl_fas hc (by omega)
    have log := zs_fa_lo fag
    obtain ⟨J0, hJ0⟩ : ∃ J0, J0 = zi_up (zi_up I (X + 5) 1 (n - 1)) (X + 5) 2 (u + 1) := ⟨_, rfl⟩
    have j0 : ∀ q, q ≠ X + 5 → J0 q = I q := fun q hq => by rw [hJ0, zu_off hq, zu_off hq]
    have e51 : J0 (X + 5) 1 = n - 1 := by rw [hJ0, zu_ne (by omega), zu_eq ⟨rfl, rfl⟩]
    have e52 : J0 (X + 5) 2 = u + 1 := by rw [hJ0, zu_eq ⟨rfl, rfl⟩]
    have tk := fun d => zx_takeBack (d := d) (I := I) (T := T) (f := f) hhi (by rw [b1]; omega) (by rw [b2]; omega) (by rw [b1, show X + 5 + 1 = X + 6 by omega, hg]; omega) (zfr_k hF)
    simp only [b1, b2, show X + 5 + 1 = X + 6 by omega, hg, ← hJ0] at tk
    have hc' := zs_cl_swap hc hf (k := n - 1) (by omega) hg
    obtain ⟨R', hR'⟩ : ∃ R', R' = zi_up (zi_up R (X + 6) (n - 1) f) X 6 g := ⟨_, rfl⟩
    rw [← hR'] at hc'
    have hg' : R' X 6 = g := by rw [hR', zu_eq ⟨rfl, rfl⟩]
    have hm' : zs_mo S R' M := zs_mo_R hm (by rw [hR', zu_off (by omega), zu_off (by omega)])
    have Rs : ∀ k, k ≠ n - 1 → R' (X + 6) k = R (X + 6) k := fun k hk => by rw [hR', zu_ne (by omega), zu_ne (by omega)]
    have Rn : R' (X + 6) (n - 1) = f := by rw [hR', zu_ne (by omega), zu_eq ⟨rfl, rfl⟩]
    obtain ⟨P, hP⟩ : ∃ P : Int → Int, P = fun j => if 0 ≤ j ∧ j < 0 + 520 then I (M + 3) (520 * (n - 1) + (j - 0)) else I (M + 1) j := ⟨_, rfl⟩
    have og := s1 (n - 1) (by omega) (by omega)
    rw [hg] at og
    obtain ⟨rp, wp⟩ := zv_rep_page (Q := P) og.1 og.2 (fun j j1 j2 => by
      rw [hP]; dsimp only
      rw [if_pos (by omega), show j - 0 = j by omega]; rfl)
    obtain ⟨J, l1, l2⟩ := zx_layAll (d := d + 3) (T := T) hc' hg' (zv_rep_congr rp (fun q q1 q2 => j0 q (by omega))) wp (by unfold zr_se at *; rw [j0 (X + 4) (by omega)]; exact hse)
    rw [j0 (X + 4) (by omega), hst.1, hst.2.1, hst.2.2.1, hst.2.2.2] at l2
    have jq : ∀ q, X + 300 ≤ q → J q = I q := fun q q1 => by rw [zc_done_q l2 fag q1, j0 q (by omega)]
    have j5 : J (X + 5) 1 = n - 1 := by
      obtain ⟨v', c, -, d2, -⟩ := l2
      rw [d2 (X + 5) (by omega) (by omega) (by omega), e51]
    have cp1 := zy_copies (d := d + 9) (I := J) (R := R') (T := T) (o := 0) (w := 520 * u) (zmo_s1 hm') (zmo_s4 hm') (by omega) (by omega) (by omega)
    obtain ⟨A, hA⟩ : ∃ A, A = zi_up (zi_up (zi_cpy J (M + 1) (M + 4) 0 (520 * u) 520) M 5 (u + 1)) M 4 (n - 1) := ⟨_, rfl⟩
    have cp2 := zy_copies (d := d + 9) (I := A) (R := R') (T := T) (o := 520 * (n - 1)) (w := 0) (zmo_s3 hm') (zmo_s1 hm') (by omega) (by omega) (by omega)
    obtain ⟨K0, hK0⟩ : ∃ K0, K0 = zi_cpy A (M + 3) (M + 1) (520 * (n - 1)) 0 520 := ⟨_, rfl⟩
    rw [← hK0] at cp2
    have Aq : ∀ q, q ≠ M → q ≠ M + 4 → A q = J q := fun q q1 q2 => by
      rw [hA, zu_off q1, zu_off q1]
      funext j
      rw [zi_cpy_at2, if_neg (by omega)]
    have Kq : ∀ q, q ≠ M + 1 → K0 q = A q := fun q q1 => by
      rw [hK0]
      funext j
      rw [zi_cpy_at2, if_neg (by omega)]
    have A4 : ∀ j, A (M + 4) j = if 520 * u ≤ j ∧ j < 520 * u + 520 then I (M + 1) (j - 520 * u) else I (M + 4) j := fun j => by
      rw [hA, zu_off (by omega), zu_off (by omega), zi_cpy_at2]
      by_cases q : 520 * u ≤ j ∧ j < 520 * u + 520
      · rw [if_pos ⟨rfl, q⟩, if_pos q, jq _ (by omega), show 0 + (j - 520 * u) = j - 520 * u by omega]
      · rw [if_neg (by omega), if_neg q, jq _ (by omega)]
    have cM : zi_cpy J (M + 1) (M + 4) 0 (520 * u) 520 M = I M := by
      funext j
      rw [zi_cpy_at2, if_neg (by omega), jq M hap]
    have KM4 : K0 M 4 = n - 1 := by rw [Kq _ (by omega), hA, zu_eq ⟨rfl, rfl⟩]
    have KM5 : K0 M 5 = u + 1 := by rw [Kq _ (by omega), hA, zu_ne (by omega), zu_eq ⟨rfl, rfl⟩]
    have KMj : ∀ j, j ≠ 4 → j ≠ 5 → K0 M j = I M j := fun j h1 h2 => by rw [Kq _ (by omega), hA, zu_ne (by omega), zu_ne (by omega), cM]
    have K3 : K0 (M + 3) = I (M + 3) := by rw [Kq _ (by omega), Aq _ (by omega) (by omega), jq _ (by omega)]
    have K4 : K0 (M + 4) = A (M + 4) := Kq _ (by omega)
    have KP : K0 (M + 1) = P := by
      rw [hK0, hP]
      funext j
      rw [zi_cpy_at2]
      by_cases q : 0 ≤ j ∧ j < 0 + 520
      · rw [if_pos ⟨rfl, q⟩, if_pos q, Aq _ (by omega) (by omega), jq _ (by omega)]
      · rw [if_neg (by omega), if_neg q, Aq _ (by omega) (by omega), jq _ (by omega)]
    obtain ⟨K, z1, z2, z3⟩ := zz_swapped (d := d + 4) (T := T) h hc' hm' hg' j0 l2 wp (K0 := K0) (fun q q1 q2 q3 q4 => by rw [Kq q q2, Aq q q1 q4]) KMj KP (by
      unfold zc_his
      rw [zr_row0, zr_row_q, zr_row_q, KM4, KM5, K3, K4]
      refine ⟨⟨e51, e52⟩, by omega, fun k k1 k2 => ?_, fun j j1 j2 => ?_⟩
      · rw [Rs k (by omega)]
        have q := s1 k k1 (by omega)
        have lk := zs_fa_lo (zcl_fas (k := k) hc (by omega))
        exact ⟨zv_rep_congr q.1 (fun q q1 q2 => j0 q (by omega)), q.2⟩
      · by_cases q0 : j = 0
        · rw [q0, show n - 1 + 0 = n - 1 by omega, Rn]
          have lk := zs_fa_lo fa
          refine zv_rep_page (zv_rep_congr hrep (fun q q1 q2 => j0 q (by omega))) hwf (fun i i1 i2 => ?_)
          show A (M + 4) (520 * (u + 1 - 1 - 0) + i) = _
          rw [A4, if_pos (by omega)]
          congr 1; omega
        · have q := s2 (j - 1) (by omega) (by omega)
          have ej : n + (j - 1) = n - 1 + j := by omega
          rw [ej] at q
          have lk := zs_fa_lo (zcl_fas (k := n - 1 + j) hc (by omega))
          rw [Rs _ (by omega)]
          refine zv_rep_page (zv_rep_congr q.1 (fun q q1 q2 => j0 q (by omega))) q.2 (fun i i1 i2 => ?_)
          show A (M + 4) (520 * (u + 1 - 1 - j) + i) = I (M + 4) (520 * (u - 1 - (j - 1)) + i)
          rw [A4, if_neg (by omega)]
          congr 1; omega)
    have k4 : K M 4 = n - 1 := by rw [z3 4 (by omega) (by omega) (by omega), KM4]
    have j4 : J M 4 = n := by rw [jq M hap, hn]
    have j55 : J M 5 = u := by rw [jq M hap, hu]
    have c5 : zi_cpy J (M + 1) (M + 4) 0 (520 * u) 520 M 5 = u := by rw [cM, hu]
    have c4 : zi_cpy J (M + 1) (M + 4) 0 (520 * u) 520 M 4 = n := by rw [cM, hn]
    have a4 : A M 4 = n - 1 := by rw [hA, zu_eq ⟨rfl, rfl⟩]
    refine ⟨n - 1, J, R', K, ?_, ?_, z2⟩
    · rw [zm_126]
      ((try simp only [zbd_conv]); simp (disch := first | assumption | omega | trivial) only [↓reduceIte, zbd_some, eq_self, Int.reduceEq, Int.reduceLT, Int.reduceLE, and_self, or_true, true_or, or_false, false_or, if_pos, if_neg, if_true, if_false, true_and, and_true, not_true_eq_false, not_false_eq_true, false_and, and_false, Option.bind_some, zq_t, zq_f, zq0, zq1, zw_id, zcl_x1 hc, zcl_c2 hc, zcl_c2 hc', hhi.2.1, b1, hf, tk, zwq', ← hR', l1, j5])
    · rw [zm_224]
      ((try simp only [zbd_conv]); simp (disch := first | assumption | omega | trivial) only [↓reduceIte, zbd_some, eq_self, Int.reduceEq, Int.reduceLT, Int.reduceLE, and_self, or_true, true_or, or_false, false_or, if_pos, if_neg, if_true, if_false, true_and, and_true, not_true_eq_false, not_false_eq_true, false_and, and_false, Option.bind_some, zq_t, zq_f, zq0, zq1, zw_id, zmo_1 hm', zmo_r0 hm', zmo_r2 hm', zmo_r3 hm', j4, j55, cp1, zwr, c5, zu_ne, c4, ← hA, a4, cp2, z1, k4])
end ZUn
