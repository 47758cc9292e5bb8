/-! a text is read, on both sides -/
section ZTx
variable {d : Nat} {S : zS} {I J J0 J1 J2 K K0 K1 R R' : zI} {T : Int × Nat} {X M n v l f c k x y z r i p w t m e b g len N o u : Int} {P Q s : Int → Int}
theorem zx_forgetImage (hc : zs_cl S R X) (hk : 0 ≤ k ∧ k < 2) : zG (d + 2) 145 [.inr (.inr X), .inl k] (S, I, R, T) = some (0, (S, zi_up I (X + 272 + 10 * k) 2 0, R, T)) := by
  have io := zx_imageOf (d := d) (I := I) (T := T) (k := k) hc
  rw [if_pos hk] at io
  have X0 := hc.1.1
  have ne : ¬ X + 272 + 10 * k = 0 := by omega
  have k3 := (zcl_im hc hk).2.1
  rw [zm_145]
  ((try simp only [zbd_conv]); simp (disch := first | assumption | omega | trivial) only [↓reduceIte, zbd_some, eq_self, Int.reduceEq, Int.reduceLT, Int.reduceLE, and_self, or_true, true_or, or_false, false_or, if_pos, if_neg, if_true, if_false, true_and, and_true, not_true_eq_false, not_false_eq_true, false_and, and_false, Option.bind_some, zq_t, zq_f, zq0, zq1, zw_id, zcl_x1 hc, io, ne, k3, zwr])
theorem zs_cl_flip (h : zs_cl S R X) : zs_cl S (zi_up (zi_up R X 7 (R X 6)) X 6 (R X 7)) X := by
  have fa6 := zcl_fa6 h rfl
  have fa7 := zcl_fa7 h rfl
  have fas := fun k k1 k2 => zcl_fas (k := k) h ⟨k1, k2⟩
  obtain ⟨n1, n2, n3⟩ := h.2.2.2.2.2.2.2.2.2.2
  have e6 : zi_up (zi_up R X 7 (R X 6)) X 6 (R X 7) X 6 = R X 7 := zu_eq ⟨rfl, rfl⟩
  have e7 : zi_up (zi_up R X 7 (R X 6)) X 6 (R X 7) X 7 = R X 6 := by rw [zu_ne (by omega), zu_eq ⟨rfl, rfl⟩]
  have es : zi_up (zi_up R X 7 (R X 6)) X 6 (R X 7) (X + 6) = R (X + 6) := by rw [zu_off (by omega), zu_off (by omega)]
  refine zs_cl_R h (fun q q1 q2 => by rw [zu_off q1, zu_off q1]) (fun j j1 j2 => by rw [zu_ne (by omega), zu_ne (by omega)]) ⟨by rw [e6]; exact fa7, by rw [e7]; exact fa6, fun j j1 j2 => by rw [es]; exact fas j j1 j2⟩ ⟨by rw [e6, e7]; exact fun q => n1 q.symm, fun j j1 j2 => ?_, fun i j i1 i2 i3 => by rw [es]; exact n3 i j i1 i2 i3⟩
  rw [es, e6, e7]
  exact ⟨(n2 j j1 j2).2, (n2 j j1 j2).1⟩
theorem zz_text (h : zR4 S I R X M) : zz_ok (d + 11) S I R T X M 108 172 [] := by
  obtain ⟨hc, hm, hap, hall⟩ := id h
  have X0 := hc.1.1
  have M0 := hm.1.1
  obtain ⟨⟨hrep, hwf⟩, hst, hmo, hse, -, -, hnum, ht, hn2, htj⟩ := zR4_facts h
  obtain ⟨n, hn⟩ : ∃ n, I M 12 = n := ⟨_, rfl⟩
  rw [hn] at ht hn2 htj
  obtain ⟨f, hf⟩ : ∃ f, R X 6 = f := ⟨_, rfl⟩
  obtain ⟨g, hg⟩ : ∃ g, R X 7 = g := ⟨_, rfl⟩
  have fa := zcl_fa6 hc hf
  have ga := zcl_fa7 hc hg
  have lof := zs_fa_lo fa
  have log := zs_fa_lo ga
  obtain ⟨n1, n2, n3⟩ := hc.2.2.2.2.2.2.2.2.2.2
  rw [hf, hg] at n1 n2
  have fg := zs_fa_ne fa ga n1
  have hta := zcl_ta hc
  have hG : zs_fr S R g := zcl_fb hc (Or.inl ga)
  have hn0 : (0 : Int) ≤ n := hn2.1
  obtain ⟨J1, v, r1, r2, r3, r4⟩ := zx_readInto (d := d + 3) (I := I) (T := T) hta hG (by omega) (by rw [ht]; exact hn2)
  rw [ht, show X + 1 + 1 = X + 2 by omega] at r3 r4
  obtain ⟨pl, hpl⟩ : ∃ pl, J1 (X + 1) 3 = pl := ⟨_, rfl⟩
  rw [hpl] at r3
  obtain ⟨v0, p0, p1⟩ := zt_res_nn r3 hn0
  have j1 : ∀ x, x ≠ X + 1 → x ≠ X + 3 → (x < g ∨ g + 8 ≤ x) → J1 x = I x := fun x x1 x2 x3 => r2.1 x x1 (by omega) x3
  obtain ⟨J3, hJ3⟩ : ∃ J3, J3 = zi_up (zi_up J1 X 9 v) (X + 1) 2 0 := ⟨_, rfl⟩
  have j3 : ∀ x, x ≠ X → x ≠ X + 1 → J3 x = J1 x := fun x x1 x2 => by rw [hJ3, zu_off x2, zu_off x1]
  have j3X : ∀ j, j ≠ 9 → J3 X j = I X j := fun j hj => by rw [hJ3, zu_off (by omega), zu_ne (by omega), j1 X (by omega) (by omega) (by omega)]
  have j39 : J3 X 9 = v := by rw [hJ3, zu_off (by omega), zu_eq ⟨rfl, rfl⟩]
  have j32 : J3 (X + 1) 2 = 0 := by rw [hJ3, zu_eq ⟨rfl, rfl⟩]
  have j3I : ∀ x, x ≠ X → x ≠ X + 1 → x ≠ X + 3 → (x < g ∨ g + 8 ≤ x) → J3 x = I x := fun x x1 x2 x3 x4 => by rw [j3 x x1 x2, j1 x x2 x3 x4]
  have pl3 : zi_up J1 X 9 v (X + 1) 3 = pl := by rw [zu_off (by omega), hpl]
  -- what the reference does on a memory whose upper part is as at the start
  have mod : ∀ (J R' : zI), zs_mo S R' M → (∀ q, X + 300 ≤ q → J q = I q) → ∃ L w2, zG (d + 11) 172 [.inr (.inr M)] (S, J, R', T) = zi_run zt_172 (zG (d + 10)) w2 113 [some (.inr (.inr M)), some (.inl pl), none] [] (S, L, R', T) ∧ 600 < w2 ∧ (∀ x, x ≠ M → x ≠ M + 2 → x ≠ M + 6 → L x = J x) ∧ (∀ j, j ≠ 13 → j ≠ 15 → j ≠ 16 → L M j = I M j) ∧ L M 13 = v ∧ (v = 0 → zt_eq (L (M + 2)) (zt_iter (I (X + 2)) n.toNat).1) := fun J R' hm' hj => by
    obtain ⟨I1, w, a1, a2, a3, a4, a5, a6⟩ := zy_textA (d := d + 5) (I := J) (T := T) hm'
    obtain ⟨L, v', pl', w2, b1, b2, b3, b4, b5, b6⟩ := zy_reads (d := d + 5) (T := T) (tp := I (X + 2)) hm' hn2 n.toNat 0 w I1 (by omega) (by omega) (by rw [a4 12 (by omega) (by omega) (by omega), hj M hap, hn]) (fun j j1 j2 => by rw [a3 _ (by omega) (by omega), hj _ (by omega)]; exact (htj j j1 j2).symm) a5 (fun j hj => by omega) a6
    obtain ⟨e1, e2⟩ := zt_res_uniq b5 r3
    rw [e1] at b4 b6
    rw [e2] at b1
    refine ⟨L, w2, a1.trans b1, b2, fun x x1 x2 x3 => by rw [b3.1 x x1 x2 x3, a3 x x1 x2], fun j j1 j2 j3 => by rw [b3.2 j j1 j2 j3, a4 j j1 j2 j3, hj M hap], b4, b6⟩
  by_cases gv : v = 0
  · -- a text without a fault
    obtain ⟨P0, hP0⟩ : ∃ P0, P0 = (zt_iter (I (X + 2)) n.toNat).1 := ⟨_, rfl⟩
    have wt := zw_iter (tp := I (X + 2)) n.toNat
    have rp := r4 gv
    rw [← hP0] at rp
    have wp : zw_page P0 := by rw [hP0]; exact wt.1
    have p9 : P0 519 = 0 := by rw [hP0]; exact wt.2.2.1.2
    obtain ⟨R', hR'⟩ : ∃ R', R' = zi_up (zi_up R X 7 f) X 6 g := ⟨_, rfl⟩
    have hc' : zs_cl S R' X := by rw [hR', ← hf, ← hg]; exact zs_cl_flip hc
    have hg' : R' X 6 = g := by rw [hR', zu_eq ⟨rfl, rfl⟩]
    have hm' : zs_mo S R' M := zs_mo_R hm (by rw [hR', zu_off (by omega), zu_off (by omega)])
    have fgt := fun d => zx_forget (d := d) (I := J3) (T := T) (zcl_hi hc')
    obtain ⟨J4, hJ4⟩ : ∃ J4, J4 = zi_up (zi_up J3 (X + 5) 1 0) (X + 5) 2 0 := ⟨_, rfl⟩
    simp only [← hJ4] at fgt
    have f0 := fun d => zx_forgetImage (d := d) (I := J4) (T := T) (k := 0) hc' (by omega)
    have f1 := fun d => zx_forgetImage (d := d) (I := zi_up J4 (X + 272 + 10 * 0) 2 0) (T := T) (k := 1) hc' (by omega)
    obtain ⟨J5, hJ5⟩ : ∃ J5, J5 = zi_up (zi_up J4 (X + 272 + 10 * 0) 2 0) (X + 272 + 10 * 1) 2 0 := ⟨_, rfl⟩
    simp only [← hJ5] at f1
    have j5 : ∀ x, x ≠ X + 5 → x ≠ X + 272 → x ≠ X + 282 → J5 x = J3 x := fun x x1 x2 x3 => by rw [hJ5, zu_off (by omega), zu_off (by omega), hJ4, zu_off x1, zu_off x1]
    have j5I : ∀ x, x ≠ X → x ≠ X + 1 → x ≠ X + 3 → x ≠ X + 5 → x ≠ X + 272 → x ≠ X + 282 → (x < g ∨ g + 8 ≤ x) → J5 x = I x := fun x x1 x2 x3 x4 x5 x6 x7 => by rw [j5 x x4 x5 x6, j3I x x1 x2 x3 x7]
    have X4 : J5 (X + 4) = I (X + 4) := j5I _ (by omega) (by omega) (by omega) (by omega) (by omega) (by omega) (by omega)
    have rp5 : zv_rep J5 g P0 := zv_rep_congr rp (fun q q1 q2 => by rw [j5 q (by omega) (by omega) (by omega), j3 q (by omega) (by omega)])
    obtain ⟨J, l1, l2⟩ := zx_layAll (d := d + 3) (T := T) hc' hg' rp5 wp (by unfold zr_se at *; rw [X4]; exact hse)
    rw [X4, hst.1, hst.2.1, hst.2.2.1, hst.2.2.2] at l2
    have jq : ∀ q, X + 300 ≤ q → J q = I q := fun q q1 => by rw [zc_done_q l2 ga q1, j5I q (by omega) (by omega) (by omega) (by omega) (by omega) (by omega) (by omega)]
    obtain ⟨v', c, d1, d2, d3, d4, ⟨d5, d5w⟩, d6⟩ := l2
    have wn := wp.2.1 (P0 518) wp.2.2.2.2.2.1.1 wp.2.2.2.2.2.1.2
    obtain ⟨e1, e2⟩ := zl_settle0 d1 wn.1 p9
    subst e1 e2
    obtain ⟨L, w2, m1, m2, m3, m4, m5, m6⟩ := mod J R' hm' jq
    rw [gv] at m5
    obtain ⟨K, k1, k2, k3, k4, k5, k6⟩ := zy_textC (d := d + 5) (T := T) (p := pl) hm' m5 m2
    have mP := m6 gv
    rw [← hP0] at mP
    have LP0 : L (M + 2) 0 = P0 0 := mP 0 (by omega) (by omega)
    have KP : ∀ j, 0 ≤ j → j < 520 → K (M + 1) j = zt_up P0 519 0 j := fun j q1 q2 => by
      rw [k6 j q1 q2, mP j q1 q2]
      by_cases q : j = 519
      · rw [q, zt_up_eq rfl, p9]
      · rw [zt_up_ne q]
    have Kq : ∀ q, q < M → K q = J q := fun q q1 => by rw [k2 q (by omega) (by omega) (by omega), m3 q (by omega) (by omega) (by omega)]
    have KMj : ∀ j, j ≠ 4 → j ≠ 5 → j ≠ 10 → (j < 12 ∨ 16 < j) → K M j = I M j := fun j q1 q2 q3 q4 => by rw [k3 j q1 q2 q3 (by omega), m4 j (by omega) (by omega) (by omega)]
    have KI : ∀ q, q ≠ X → q ≠ X + 1 → q ≠ X + 3 → q ≠ X + 5 → q ≠ X + 272 → q ≠ X + 282 → (q < g ∨ g + 8 ≤ q) → (q < X + 135 ∨ X + 255 ≤ q) → q < M → K q = I q := fun q a1 a2 a3 a4 a5 a6 a7 a8 a9 => by rw [Kq q a9, d2 q a1 (by omega) a8, j5I q a1 a2 a3 a4 a5 a6 a7]
    have Kr : ∀ q, 3 ≤ q → q ≠ 6 → q ≠ 12 → K (M + q) = I (M + q) := fun q q1 q2 q3 => by rw [k2 _ (by omega) (by omega) (by omega), m3 _ (by omega) (by omega) (by omega), jq _ (by omega)]
    have cnt : J (g + 1) 0 = P0 0 := by rw [d5.1, zt_up_ne (by omega)]
    have fin : zR4 S K R' X M := by
      obtain ⟨rr, ww⟩ := zv_rep_page d5 d5w KP
      have KP0 : K (M + 1) 0 = P0 0 := by rw [KP 0 (by omega) (by omega), zt_up_ne (by omega)]
      have w0 := wp.1
      refine ⟨hc', hm', hap, ⟨?_, ?_⟩, ⟨?_, ?_⟩, fun l q1 q2 => ?_, ⟨?_, ?_⟩, ⟨?_, ?_, fun j q1 q2 => ?_⟩, ⟨⟨?_, ?_⟩, ?_, fun k q1 q2 => ?_, fun k q1 q2 => ?_⟩, fun k q1 q2 => ?_, ?_⟩
      · rw [hg', zr_row_q]
        exact zv_rep_congr rr (fun q q1 q2 => Kq q (by omega))
      · rw [zr_row_q]; exact ww
      · rw [zr_row0, KI (X + 4) (by omega) (by omega) (by omega) (by omega) (by omega) (by omega) (by omega) (by omega) (by omega), KMj 6 (by omega) (by omega) (by omega) (by omega), KMj 7 (by omega) (by omega) (by omega) (by omega), KMj 8 (by omega) (by omega) (by omega) (by omega), KMj 9 (by omega) (by omega) (by omega) (by omega)]
        exact hst
      · unfold zr_mo at *
        rw [zr_row0, KMj 6 (by omega) (by omega) (by omega) (by omega), KMj 7 (by omega) (by omega) (by omega) (by omega), KMj 8 (by omega) (by omega) (by omega) (by omega), KMj 9 (by omega) (by omega) (by omega) (by omega)]
        exact hmo
      · rw [zr_row_q, KP0] at q2
        rw [zr_row_q, zr_row0, KMj 6 (by omega) (by omega) (by omega) (by omega), KMj 7 (by omega) (by omega) (by omega) (by omega), KMj 8 (by omega) (by omega) (by omega) (by omega), KMj 9 (by omega) (by omega) (by omega) (by omega)]
        have bn := wp.2.1 l q1 q2
        have a := d6 l q1 q2
        exact zl_laid_congr (P := zt_up P0 519 0) (zl_laid_mem a (by omega) (fun q a1 a2 => Kq q (by omega))) (by omega) (KP _ (by omega) (by omega)) (fun i i1 i2 => by
          rw [zt_up_ne (by omega)] at i2
          exact KP _ (by omega) (by omega))
      · rw [zr_row0, Kq X (by omega), d4, k4.2.2.1]
      · rw [zr_row0, Kq X (by omega), d3 9 (by omega), j5 X (by omega) (by omega) (by omega), j39, k3 13 (by omega) (by omega) (by omega) (by omega), m5, gv]
      · rw [zr_row0, Kq _ (by omega), d2 _ (by omega) (by omega) (by omega), j5 _ (by omega) (by omega) (by omega), j32, k4.2.2.2]
      · rw [zr_row0, k4.2.2.2]; omega
      · rw [zr_row0, k4.2.2.2] at q2; omega
      · rw [zr_row0, k4.1, Kq _ (by omega), d2 _ (by omega) (by omega) (by omega), hJ5, zu_off (by omega), zu_off (by omega), hJ4, zu_ne (by omega), zu_eq ⟨rfl, rfl⟩]
      · rw [zr_row0, k4.2.1, Kq _ (by omega), d2 _ (by omega) (by omega) (by omega), hJ5, zu_off (by omega), zu_off (by omega), hJ4, zu_eq ⟨rfl, rfl⟩]
      · rw [zr_row0, k4.1, k4.2.1]; omega
      · rw [zr_row0, k4.1] at q2; omega
      · rw [zr_row0, k4.2.1] at q2; omega
      · have z := k5 k q1 q2
        unfold zc_im1
        rw [zr_row_q, z]
        refine ⟨⟨?_, Or.inl rfl⟩, fun q => by omega⟩
        rw [Kq _ (by omega), d2 _ (by omega) (by omega) (by omega), hJ5]
        rcases (show k = 0 ∨ k = 1 by omega) with q | q <;> subst q
        · rw [zu_ne (by omega), zu_eq ⟨rfl, rfl⟩]
        · rw [zu_eq ⟨rfl, rfl⟩]
      · exact zc_shs_A (zc_shs_I hall.2.2.2.2.2.2.2 (fun q a1 a2 => KI q (by omega) (by omega) (by omega) (by omega) (by omega) (by omega) (by omega) (by omega) (by omega))) (Kr 14 (by omega) (by omega) (by omega)) (Kr 15 (by omega) (by omega) (by omega)) (Kr 16 (by omega) (by omega) (by omega))
    refine ⟨P0 0, J, R', K, ?_, ?_, fin⟩
    · have cF' := zcl_fr hc' hg'
      have j39z : J3 X 9 = 0 := by rw [j39, gv]
      rw [zm_108]
      ((try simp only [zbd_conv]); simp (disch := first | assumption | omega | trivial) only [↓reduceIte, zbd_some, eq_self, Int.reduceEq, Int.reduceLT, Int.reduceLE, and_self, or_true, true_or, or_false, false_or, if_pos, if_neg, if_true, if_false, true_and, and_true, not_true_eq_false, not_false_eq_true, false_and, and_false, Option.bind_some, zq_t, zq_f, zq0, zq1, zw_id, zcl_x1 hc, zcl_c0 hc, zcl_c2 hc', (zcl_hi hc).2.1, hta.2.1, hg, hf, r1, zwr, zwq, ← hJ3, j39z, ← hR', fgt])
      rw [zk_108_70]
      ((try simp only [zbd_conv]); simp (disch := first | assumption | omega | trivial) only [↓reduceIte, zbd_some, eq_self, Int.reduceEq, Int.reduceLT, Int.reduceLE, and_self, or_true, true_or, or_false, false_or, if_pos, if_neg, if_true, if_false, true_and, and_true, not_true_eq_false, not_false_eq_true, false_and, and_false, Option.bind_some, zq_t, zq_f, zq0, zq1, zw_id, zcl_x1 hc, f0])
      rw [zk_108_70]
      ((try simp only [zbd_conv]); simp (disch := first | assumption | omega | trivial) only [↓reduceIte, zbd_some, eq_self, Int.reduceEq, Int.reduceLT, Int.reduceLE, and_self, or_true, true_or, or_false, false_or, if_pos, if_neg, if_true, if_false, true_and, and_true, not_true_eq_false, not_false_eq_true, false_and, and_false, Option.bind_some, zq_t, zq_f, zq0, zq1, zw_id, zcl_x1 hc, Int.reduceAdd, f1])
      rw [zk_108_70]
      ((try simp only [zbd_conv]); simp (disch := first | assumption | omega | trivial) only [↓reduceIte, zbd_some, eq_self, Int.reduceEq, Int.reduceLT, Int.reduceLE, and_self, or_true, true_or, or_false, false_or, if_pos, if_neg, if_true, if_false, true_and, and_true, not_true_eq_false, not_false_eq_true, false_and, and_false, Option.bind_some, zq_t, zq_f, zq0, zq1, zw_id, zcl_x1 hc, Int.reduceAdd, l1, hg', zfr_k cF', zfr_r0 cF', zfr_lk cF', cnt])
    · rw [m1, k1, LP0]
  · -- a fault
    obtain ⟨L, w2, m1, m2, m3, m4, m5, -⟩ := mod J3 R hm (fun q q1 => j3I q (by omega) (by omega) (by omega) (by omega))
    obtain ⟨K, hK⟩ : ∃ K, K = zi_up L M 12 0 := ⟨_, rfl⟩
    have mr := zy_textF (d := d + 5) (I := L) (T := T) (p := pl) hm (by omega) (by omega) m2
    have Kq : ∀ q, q ≠ M → q ≠ M + 2 → q ≠ M + 6 → K q = J3 q := fun q q1 q2 q3 => by rw [hK, zu_off q1, m3 q q1 q2 q3]
    have KI : ∀ q, q ≠ X → q ≠ X + 1 → q ≠ X + 3 → (q < g ∨ g + 8 ≤ q) → q ≠ M → q ≠ M + 2 → q ≠ M + 6 → K q = I q := fun q a1 a2 a3 a4 a5 a6 a7 => by rw [Kq q a5 a6 a7, j3I q a1 a2 a3 a4]
    have KMj : ∀ j, (j < 12 ∨ 16 < j) → K M j = I M j := fun j hj => by rw [hK, zu_ne (by omega), m4 j (by omega) (by omega) (by omega)]
    have K12 : K M 12 = 0 := by rw [hK, zu_eq ⟨rfl, rfl⟩]
    have K13 : K M 13 = v := by rw [hK, zu_ne (by omega), m5]
    have rq : ∀ q, 1 ≤ q → q ≠ 2 → q ≠ 6 → zr_row K M q = zr_row I M q := fun q q1 q2 q3 => KI (M + q) (by omega) (by omega) (by omega) (by omega) (by omega) (by omega) (by omega)
    have r0 : ∀ j, (j < 12 ∨ 16 < j) → zr_row K M 0 j = zr_row I M 0 j := fun j hj => by rw [zr_row0, zr_row0]; exact KMj j hj
    have fin : zR4 S K R X M := by
      refine ⟨hc, hm, hap, ⟨?_, ?_⟩, ?_, ?_, ⟨?_, ?_⟩, ⟨?_, ?_, fun j q1 q2 => ?_⟩, ?_, ?_, ?_⟩
      · rw [hf, rq 1 (by omega) (by omega) (by omega), zr_row_q]
        rw [hf] at hrep
        exact zv_rep_congr hrep (fun q q1 q2 => KI q (by omega) (by omega) (by omega) (by omega) (by omega) (by omega) (by omega))
      · rw [rq 1 (by omega) (by omega) (by omega)]; exact hwf
      · exact zc_set_A (zc_set_I hall.2.1 (KI _ (by omega) (by omega) (by omega) (by omega) (by omega) (by omega) (by omega))) (r0 6 (by omega)) (r0 7 (by omega)) (r0 8 (by omega)) (r0 9 (by omega))
      · exact zc_lay_A (zc_lay_I hall.2.2.1 hwf.1.2 (fun q q1 q2 => KI q (by omega) (by omega) (by omega) (by omega) (by omega) (by omega) (by omega))) (r0 6 (by omega)) (r0 7 (by omega)) (r0 8 (by omega)) (r0 9 (by omega)) (rq 1 (by omega) (by omega) (by omega))
      · rw [zr_row0, KMj 10 (by omega), Kq X (by omega) (by omega) (by omega), j3X 8 (by omega)]; exact hnum.1
      · rw [zr_row0, K13, Kq X (by omega) (by omega) (by omega), j39]
      · rw [zr_row0, K12, Kq _ (by omega) (by omega) (by omega), j32]
      · rw [zr_row0, K12]; omega
      · rw [zr_row0, K12] at q2; omega
      · refine zc_his_A (zc_his_I hall.2.2.2.2.2.1 (KI _ (by omega) (by omega) (by omega) (by omega) (by omega) (by omega) (by omega)) (fun k k1 k2 q q1 q2 => ?_)) (r0 4 (by omega)) (r0 5 (by omega)) (rq 3 (by omega) (by omega) (by omega)) (rq 4 (by omega) (by omega) (by omega))
        have fk := zcl_fas hc ⟨k1, k2⟩
        have lok := zs_fa_lo fk
        have ap := zs_fa_ne fk ga (n2 k k1 k2).2
        exact KI q (by omega) (by omega) (by omega) (by omega) (by omega) (by omega) (by omega)
      · exact zc_img_A (zc_img_I hall.2.2.2.2.2.2.1 (fun q q1 q2 => KI q (by omega) (by omega) (by omega) (by omega) (by omega) (by omega) (by omega))) (rq 12 (by omega) (by omega) (by omega)) (rq 13 (by omega) (by omega) (by omega))
      · exact zc_shs_A (zc_shs_I hall.2.2.2.2.2.2.2 (fun q q1 q2 => KI q (by omega) (by omega) (by omega) (by omega) (by omega) (by omega) (by omega))) (rq 14 (by omega) (by omega) (by omega)) (rq 15 (by omega) (by omega) (by omega)) (rq 16 (by omega) (by omega) (by omega))
    refine ⟨-10 - pl, J3, R, K, ?_, ?_, fin⟩
    · rw [zm_108]
      ((try simp only [zbd_conv]); simp (disch := first | assumption | omega | trivial) only [↓reduceIte, zbd_some, eq_self, Int.reduceEq, Int.reduceLT, Int.reduceLE, and_self, or_true, true_or, or_false, false_or, if_pos, if_neg, if_true, if_false, true_and, and_true, not_true_eq_false, not_false_eq_true, false_and, and_false, Option.bind_some, zq_t, zq_f, zq0, zq1, zw_id, zcl_x1 hc, zcl_c0 hc, hta.2.1, hg, r1, zwr, pl3, ← hJ3, j39, gv])
    · rw [m1, mr, hK]
end ZTx
