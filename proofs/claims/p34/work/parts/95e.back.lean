/-! the object alone: undo, redo, wrap, shut, set, keep, back -/
section ZAb
variable {d : Nat} {S : zS} {I J J0 J1 J2 K R R' F : zI} {T : Int × Nat} {X n v l f g c k x y z r i j p w t m e a b N nd nu o u : Int} {P P2 Q Q0 Q2 : Int → Int} {σ : zM}
theorem zA_undo (h : zA S I R X P w t m e nd nu) (hnd : 1 ≤ nd) (hq : zv_rep I (R (X + 6) (nd - 1)) Q) (wq : zw_page Q) (nq : ¬ zt_hid Q (Q 518)) : ∃ J R' v c, zG (d + 10) 117 [.inr (.inr X)] (S, I, R, T) = some (nd - 1, (S, J, R', T)) ∧ zl_settle Q w t m e v c ∧ J X 8 = c ∧ zA S J R' X (zt_up Q 519 v) w t m e (nd - 1) (nu + 1) ∧ zv_rep J (R' (X + 6) (nd - 1)) P := by
  obtain ⟨hn, hcs, hhis⟩ := id h
  obtain ⟨hc, ⟨hrep, hwf⟩, hset, hlay⟩ := id hn; obtain ⟨f, hf⟩ : ∃ f, R X 6 = f := ⟨_, rfl⟩; rw [hf] at hrep; have hF := zcl_fr hc hf; have hrz := zA_rz hn; have h0 := hwf.1; have lof := zs_fa_lo (zcl_fa6 hc hf)
  have X0 := hc.1.1
  have hhi := zcl_hi hc
  obtain ⟨⟨b1, b2⟩, bb, sl⟩ := id hhis
  obtain ⟨g, hg⟩ : ∃ g, R (X + 6) (nd - 1) = g := ⟨_, rfl⟩
  have fag : zs_fa X g := by rw [← hg]; exact zcl_fas hc (by omega)
  have log := zs_fa_lo fag
  obtain ⟨J0, hJ0⟩ : ∃ J0, J0 = zi_up (zi_up I (X + 5) 1 (nd - 1)) (X + 5) 2 (nu + 1) := ⟨_, rfl⟩
  have j0 : ∀ q, q ≠ X + 5 → J0 q = I q := fun q hq => by rw [hJ0, zu_off hq, zu_off hq]
  have e51 : J0 (X + 5) 1 = nd - 1 := by rw [hJ0, zu_ne (by omega), zu_eq ⟨rfl, rfl⟩]
  have e52 : J0 (X + 5) 2 = nu + 1 := by rw [hJ0, zu_eq ⟨rfl, rfl⟩]
  have tk := fun d => zx_takeBack (d := d) (I := I) (T := T) (f := f) hhi (by rw [b1]; omega) (by rw [b2]; omega) (by rw [b1, show X + 5 + 1 = X + 6 by omega, hg]; omega) (zfr_k hF)
  simp only [b1, b2, show X + 5 + 1 = X + 6 by omega, hg, ← hJ0] at tk
  have hc' := zs_cl_swap hc hf (k := nd - 1) (by omega) hg
  obtain ⟨R', hR'⟩ : ∃ R', R' = zi_up (zi_up R (X + 6) (nd - 1) f) X 6 g := ⟨_, rfl⟩
  rw [← hR'] at hc'
  have hg' : R' X 6 = g := by rw [hR', zu_eq ⟨rfl, rfl⟩]
  have Rs : ∀ k, k ≠ nd - 1 → R' (X + 6) k = R (X + 6) k := fun k hk => by rw [hR', zu_ne (by omega), zu_ne (by omega)]
  have Rn : R' (X + 6) (nd - 1) = f := by rw [hR', zu_ne (by omega), zu_eq ⟨rfl, rfl⟩]
  rw [hg] at hq
  have repf : zv_rep J0 f P := zv_rep_congr hrep (fun q q1 q2 => j0 q (by omega))
  have his : zA_his J0 R' X (nd - 1) (nu + 1) := by
    refine ⟨⟨e51, e52⟩, by omega, fun k k1 k2 => ?_⟩
    unfold zA_slot
    by_cases gk : k = nd - 1
    · rw [gk, Rn]
      exact ⟨P, repf, hwf, hcs.2⟩
    · rw [Rs k gk]
      obtain ⟨Q', q1, q2⟩ := sl k k1 (by omega)
      have := zA_fr hc hf (k := k) (by omega)
      exact ⟨Q', zv_rep_congr q1 (fun q q1 q2 => j0 q (by omega)), q2⟩
  obtain ⟨J, l1, l2⟩ := zA_layall (d := d + 2) (T := T) hset hc' hg' (j0 _ (by omega)) (zv_rep_congr hq (fun q q1 q2 => j0 q (by omega))) wq
  have set0 : zA_set J0 X w t m e := by
    unfold zA_set at *
    rw [j0 (X + 4) (by omega)]
    exact hset
  obtain ⟨v, c, a1, a2, a3, a4⟩ := zA_full hc' hg' wq nq set0 his l2
  have j5 : J (X + 5) 1 = nd - 1 := by rw [a4 (X + 5) (by omega) (by omega) (by omega), e51]
  have ap := zA_fr hc' hg' (k := nd - 1) (by omega)
  refine ⟨J, R', v, c, ?_, a1, a2, a3, ?_⟩
  · rw [zm_117]
    ((try simp only [zbd_conv]); simp (disch := first | assumption | omega | trivial) only [↓reduceIte, zbd_some, eq_self, Int.reduceEq, Int.reduceLT, Int.reduceLE, and_self, or_true, true_or, or_false, false_or, if_pos, if_neg, if_true, if_false, true_and, and_true, not_true_eq_false, not_false_eq_true, false_and, and_false, Option.bind_some, zq_t, zq_f, zq0, zq1, zw_id, zcl_x1 hc, zcl_c2 hc, zcl_c2 hc', hhi.2.1, b1, hf, tk, zwq', ← hR', l1, j5])
  · rw [Rn] at ap ⊢
    exact zv_rep_congr repf (fun q q1 q2 => a4 q (by omega) (by omega) (by omega))
theorem zA_redo (h : zA S I R X P w t m e nd nu) (hnu : 1 ≤ nu) (hq : zv_rep I (R (X + 6) nd) Q) (wq : zw_page Q) (nq : ¬ zt_hid Q (Q 518)) : ∃ J R' v c, zG (d + 10) 118 [.inr (.inr X)] (S, I, R, T) = some (nu - 1, (S, J, R', T)) ∧ zl_settle Q w t m e v c ∧ J X 8 = c ∧ zA S J R' X (zt_up Q 519 v) w t m e (nd + 1) (nu - 1) := by
  obtain ⟨hn, hcs, hhis⟩ := id h
  obtain ⟨hc, ⟨hrep, hwf⟩, hset, hlay⟩ := id hn; obtain ⟨f, hf⟩ : ∃ f, R X 6 = f := ⟨_, rfl⟩; rw [hf] at hrep; have hF := zcl_fr hc hf; have hrz := zA_rz hn; have h0 := hwf.1; have lof := zs_fa_lo (zcl_fa6 hc hf)
  have X0 := hc.1.1
  have hhi := zcl_hi hc
  obtain ⟨⟨b1, b2⟩, bb, sl⟩ := id hhis
  obtain ⟨g, hg⟩ : ∃ g, R (X + 6) nd = g := ⟨_, rfl⟩
  have fag : zs_fa X g := by rw [← hg]; exact zcl_fas hc (by omega)
  have log := zs_fa_lo fag
  obtain ⟨J0, hJ0⟩ : ∃ J0, J0 = zi_up (zi_up I (X + 5) 1 (nd + 1)) (X + 5) 2 (nu - 1) := ⟨_, rfl⟩
  have j0 : ∀ q, q ≠ X + 5 → J0 q = I q := fun q hq => by rw [hJ0, zu_off hq, zu_off hq]
  have e51 : J0 (X + 5) 1 = nd + 1 := by rw [hJ0, zu_ne (by omega), zu_eq ⟨rfl, rfl⟩]
  have e52 : J0 (X + 5) 2 = nu - 1 := by rw [hJ0, zu_eq ⟨rfl, rfl⟩]
  have tk := fun d => zx_doAgain (d := d) (I := I) (T := T) (f := f) hhi (by rw [b1]; omega) (by rw [b2]; omega) (by rw [b1, show X + 5 + 1 = X + 6 by omega, hg]; omega) (zfr_k hF)
  simp only [b1, b2, show X + 5 + 1 = X + 6 by omega, hg, ← hJ0] at tk
  have hc' := zs_cl_swap hc hf (k := nd) (by omega) hg
  obtain ⟨R', hR'⟩ : ∃ R', R' = zi_up (zi_up R (X + 6) nd f) X 6 g := ⟨_, rfl⟩
  rw [← hR'] at hc'
  have hg' : R' X 6 = g := by rw [hR', zu_eq ⟨rfl, rfl⟩]
  have Rs : ∀ k, k ≠ nd → R' (X + 6) k = R (X + 6) k := fun k hk => by rw [hR', zu_ne (by omega), zu_ne (by omega)]
  have Rn : R' (X + 6) nd = f := by rw [hR', zu_ne (by omega), zu_eq ⟨rfl, rfl⟩]
  rw [hg] at hq
  have repf : zv_rep J0 f P := zv_rep_congr hrep (fun q q1 q2 => j0 q (by omega))
  have his : zA_his J0 R' X (nd + 1) (nu - 1) := by
    refine ⟨⟨e51, e52⟩, by omega, fun k k1 k2 => ?_⟩
    unfold zA_slot
    by_cases gk : k = nd
    · rw [gk, Rn]
      exact ⟨P, repf, hwf, hcs.2⟩
    · rw [Rs k gk]
      obtain ⟨Q', q1, q2⟩ := sl k k1 (by omega)
      have := zA_fr hc hf (k := k) (by omega)
      exact ⟨Q', zv_rep_congr q1 (fun q q1 q2 => j0 q (by omega)), q2⟩
  obtain ⟨J, l1, l2⟩ := zA_layall (d := d + 2) (T := T) hset hc' hg' (j0 _ (by omega)) (zv_rep_congr hq (fun q q1 q2 => j0 q (by omega))) wq
  have set0 : zA_set J0 X w t m e := by
    unfold zA_set at *
    rw [j0 (X + 4) (by omega)]
    exact hset
  obtain ⟨v, c, a1, a2, a3, a4⟩ := zA_full hc' hg' wq nq set0 his l2
  have j5 : J (X + 5) 2 = nu - 1 := by rw [a4 (X + 5) (by omega) (by omega) (by omega), e52]
  refine ⟨J, R', v, c, ?_, a1, a2, a3⟩
  rw [zm_118]
  ((try simp only [zbd_conv]); simp (disch := first | assumption | omega | trivial) only [↓reduceIte, zbd_some, eq_self, Int.reduceEq, Int.reduceLT, Int.reduceLE, and_self, or_true, true_or, or_false, false_or, if_pos, if_neg, if_true, if_false, true_and, and_true, not_true_eq_false, not_false_eq_true, false_and, and_false, Option.bind_some, zq_t, zq_f, zq0, zq1, zw_id, zcl_x1 hc, zcl_c2 hc, zcl_c2 hc', hhi.2.1, b2, hf, tk, zwq', ← hR', l1, j5])
/-- the frame's page is another, of the same lines and the same caret -/
theorem zA_page (h : zA S I R X P w t m e nd nu) (hf : R X 6 = f) (kI : ∀ q, (q < f ∨ f + 8 ≤ q) → K q = I q) (hr : zv_rep K f Q) (hw : zw_page Q) (hq : ∀ j, (j < 493 ∨ 518 ≤ j) → Q j = P j) (nh : ¬ zt_hid Q (Q 518)) : zA S K R X Q w t m e nd nu := by
  obtain ⟨hn, ⟨⟨c, hcs⟩, -⟩, hhis⟩ := id h
  obtain ⟨hc, ⟨hrep, hwf⟩, hset, hlay⟩ := id hn
  have lo := zs_fa_lo (zcl_fa6 hc hf)
  have h0 := hwf.1
  have st := (zA_stop hn hcs).1
  have ca := (zA_car hn).1
  have now : zA_now S K R X Q w t m e := by
    refine ⟨hc, ⟨by rw [hf]; exact hr, hw⟩, ?_, fun l l1 l2 => ?_⟩
    · unfold zA_set at *
      rw [kI (X + 4) (by omega)]
      exact hset
    · rw [hq 0 (by omega)] at l2
      have hnl := hwf.2.1 l l1 l2
      exact zl_laid_congr (P := P) (zl_laid_mem (hlay l l1 l2) (by omega) (fun q q1 q2 => kI q (by omega))) (by omega) (hq _ (by omega)) (fun i i1 i2 => hq _ (by omega))
  refine ⟨now, ⟨⟨_, zA_settled now ?_⟩, nh⟩, zA_his_I hhis (kI _ (by omega)) (fun k k1 k2 q q1 q2 => ?_)⟩
  · rw [hq 518 (by omega), hq 519 (by omega), kI _ (by omega)]
    exact st
  · have := zA_fr hc hf ⟨k1, k2⟩
    exact kI q (by omega)
/-- images, sheets are others -/
theorem zA_I (h : zA S I R X P w t m e nd nu) (hq : ∀ q, X ≤ q → q < X + 272 → J q = I q) : zA S J R X P w t m e nd nu := by
  obtain ⟨hn, hcs, hhis⟩ := id h
  obtain ⟨hc, ⟨hrep, hwf⟩, hset, hlay⟩ := id hn
  have h0 := hwf.1
  have lo := zs_fa_lo (zcl_fa6 hc rfl)
  refine ⟨⟨hc, ⟨zv_rep_congr hrep (fun q q1 q2 => hq q (by omega) (by omega)), hwf⟩, ?_, fun l l1 l2 => zl_laid_mem (hlay l l1 l2) (by omega) (fun q q1 q2 => hq q (by omega) (by omega))⟩, hcs, zA_his_I hhis (hq _ (by omega) (by omega)) (fun k k1 k2 q q1 q2 => ?_)⟩
  · unfold zA_set at *
    rw [hq _ (by omega) (by omega)]
    exact hset
  · have := zs_fa_lo (zcl_fas hc ⟨k1, k2⟩)
    exact hq q (by omega) (by omega)
theorem zA_wrap (h : zA S I R X P w t m e nd nu) : ∃ v J Q, zG (d + 10) 119 [.inr (.inr X), .inl x, .inl y] (S, I, R, T) = some (v, (S, J, R, T)) ∧ zA S J R X Q w t m e nd nu := by
  obtain ⟨hn, hcs, hhis⟩ := id h
  obtain ⟨hc, ⟨hrep, hwf⟩, hset, hlay⟩ := id hn; obtain ⟨f, hf⟩ : ∃ f, R X 6 = f := ⟨_, rfl⟩; rw [hf] at hrep; have hF := zcl_fr hc hf; have hrz := zA_rz hn; have h0 := hwf.1; have lof := zs_fa_lo (zcl_fa6 hc hf)
  have wN := hwf.2.2.1
  have c8 : I (f + 4) 0 ≤ 8 := by rw [hrep.2.2.2.1]; exact wN.2
  by_cases gx : 0 ≤ x ∧ x < P 0
  · by_cases gy : 0 ≤ y ∧ y < P 0
    · by_cases gxy : x < y
      · have ca := fun d => zx_clash (d := d) (I := I) (T := T) (b := x) (c := y) (zfr_fo hF) c8
        by_cases ga : zt_ag P x y
        · have gc := (zt_ag_iff hrep).mpr ga
          refine ⟨-2, I, P, ?_, h⟩
          rw [zm_119]
          ((try simp only [zbd_conv]); simp (disch := first | assumption | omega | trivial) only [↓reduceIte, zbd_some, eq_self, Int.reduceEq, Int.reduceLT, Int.reduceLE, and_self, or_true, true_or, or_false, false_or, if_pos, if_neg, if_true, if_false, true_and, and_true, not_true_eq_false, not_false_eq_true, false_and, and_false, Option.bind_some, zq_t, zq_f, zq0, zq1, zw_id, zcl_x1 hc, hf, zfr_k hF, zfr_r0 hF, zfr_r1 hF, zfr_lk hF, zfr_fk hF, zcl_c3 hc, (zcl_sc hc).2.1, zzc_has hF hrep, ca, gc])
        · have gc : ¬ zf_clash I (f + 4) x y := fun q => ga ((zt_ag_iff hrep).mp q)
          by_cases g8 : P 493 < 8
          · obtain ⟨N, hN⟩ : ∃ N, P 493 = N := ⟨_, rfl⟩
            have cN : I (f + 4) 0 = N := by rw [hrep.2.2.2.1, hN]
            obtain ⟨k, k1, k2⟩ := zx_add (d := d + 6) (I := I) (T := T) (x := x) (y := y) (zfr_fo hF) cN (by omega)
            rw [show f + 4 + 1 = f + 5 by omega, show f + 4 + 2 = f + 6 by omega, ← hN] at k1
            obtain ⟨k3, k4⟩ := zv_fins (v := 0) hwf hrep k1 g8
            rw [hN] at k4
            have wp := zw_fins (v := 0) hwf (by omega) (by omega) g8 ga
            have pb := (zt_pos_b (P := P) (x := x) (y := y) wN.1).1
            rw [hN] at wp pb
            obtain ⟨J, hJ⟩ : ∃ J, J = zp_fins I (f + 4) N k x y 0 := ⟨_, rfl⟩
            rw [← hJ] at k2 k4
            have jq : ∀ q, (q < f + 4 ∨ f + 8 ≤ q) → J q = I q := fun q q1 => by
              rw [hJ]
              funext j
              unfold zp_fins
              (repeat' split) <;> first | rfl | (exfalso; omega)
            obtain ⟨b, hb⟩ : ∃ b, zt_pos P x y = b := ⟨_, rfl⟩
            rw [hb] at k4 wp pb
            refine ⟨k, J, _, ?_, zA_page h hf (fun q q1 => jq q (by omega)) k4 wp (fun j hj => zt_fins_lo (by omega) (by omega)) ?_⟩
            · rw [zm_119]
              ((try simp only [zbd_conv]); simp (disch := first | assumption | omega | trivial) only [↓reduceIte, zbd_some, eq_self, Int.reduceEq, Int.reduceLT, Int.reduceLE, and_self, or_true, true_or, or_false, false_or, if_pos, if_neg, if_true, if_false, true_and, and_true, not_true_eq_false, not_false_eq_true, false_and, and_false, Option.bind_some, zq_t, zq_f, zq0, zq1, zw_id, zcl_x1 hc, hf, zfr_k hF, zfr_r0 hF, zfr_r1 hF, zfr_lk hF, zfr_fk hF, zcl_c3 hc, (zcl_sc hc).2.1, zzc_has hF hrep, ca, gc, cN, k2])
            · rw [zt_fins_lo (by omega) (by omega)]
              rintro ⟨j, ⟨j1, j2⟩, j3, j4, j5⟩
              rw [zt_fins_n] at j2
              rcases Int.lt_trichotomy j b with q | q | q
              · rw [zt_fins_l (by omega) ⟨j1, q⟩] at j3 j4 j5
                exact hcs.2 ⟨j, ⟨j1, by omega⟩, j3, j4, j5⟩
              · rw [q, zt_fins_v (by omega)] at j3
                omega
              · rw [zt_fins_h (by omega) (by omega) ⟨q, by omega⟩] at j3 j4 j5
                exact hcs.2 ⟨j - 1, ⟨by omega, by omega⟩, j3, j4, j5⟩
          · refine ⟨-3, I, P, ?_, h⟩
            rw [zm_119]
            ((try simp only [zbd_conv]); simp (disch := first | assumption | omega | trivial) only [↓reduceIte, zbd_some, eq_self, Int.reduceEq, Int.reduceLT, Int.reduceLE, and_self, or_true, true_or, or_false, false_or, if_pos, if_neg, if_true, if_false, true_and, and_true, not_true_eq_false, not_false_eq_true, false_and, and_false, Option.bind_some, zq_t, zq_f, zq0, zq1, zw_id, zcl_x1 hc, hf, zfr_k hF, zfr_r0 hF, zfr_r1 hF, zfr_lk hF, zfr_fk hF, zcl_c3 hc, (zcl_sc hc).2.1, zzc_has hF hrep, ca, gc, hrep.2.2.2.1])
      · refine ⟨-1, I, P, ?_, h⟩
        rw [zm_119]
        ((try simp only [zbd_conv]); simp (disch := first | assumption | omega | trivial) only [↓reduceIte, zbd_some, eq_self, Int.reduceEq, Int.reduceLT, Int.reduceLE, and_self, or_true, true_or, or_false, false_or, if_pos, if_neg, if_true, if_false, true_and, and_true, not_true_eq_false, not_false_eq_true, false_and, and_false, Option.bind_some, zq_t, zq_f, zq0, zq1, zw_id, zcl_x1 hc, hf, zfr_k hF, zfr_r0 hF, zfr_r1 hF, zfr_lk hF, zfr_fk hF, zcl_c3 hc, (zcl_sc hc).2.1, zzc_has hF hrep])
    · refine ⟨-1, I, P, ?_, h⟩
      rw [zm_119]
      ((try simp only [zbd_conv]); simp (disch := first | assumption | omega | trivial) only [↓reduceIte, zbd_some, eq_self, Int.reduceEq, Int.reduceLT, Int.reduceLE, and_self, or_true, true_or, or_false, false_or, if_pos, if_neg, if_true, if_false, true_and, and_true, not_true_eq_false, not_false_eq_true, false_and, and_false, Option.bind_some, zq_t, zq_f, zq0, zq1, zw_id, zcl_x1 hc, hf, zfr_k hF, zfr_r0 hF, zfr_r1 hF, zfr_lk hF, zfr_fk hF, zcl_c3 hc, (zcl_sc hc).2.1, zzc_has hF hrep])
  · refine ⟨-1, I, P, ?_, h⟩
    rw [zm_119]
    ((try simp only [zbd_conv]); simp (disch := first | assumption | omega | trivial) only [↓reduceIte, zbd_some, eq_self, Int.reduceEq, Int.reduceLT, Int.reduceLE, and_self, or_true, true_or, or_false, false_or, if_pos, if_neg, if_true, if_false, true_and, and_true, not_true_eq_false, not_false_eq_true, false_and, and_false, Option.bind_some, zq_t, zq_f, zq0, zq1, zw_id, zcl_x1 hc, hf, zfr_k hF, zfr_r0 hF, zfr_r1 hF, zfr_lk hF, zfr_fk hF, zcl_c3 hc, (zcl_sc hc).2.1, zzc_has hF hrep])
theorem zA_shut (h : zA S I R X P w t m e nd nu) : ∃ y J Q, zG (d + 10) 120 [.inr (.inr X), .inl k, .inl v] (S, I, R, T) = some (y, (S, J, R, T)) ∧ zA S J R X Q w t m e nd nu := by
  obtain ⟨hn, hcs, hhis⟩ := id h
  obtain ⟨hc, ⟨hrep, hwf⟩, hset, hlay⟩ := id hn; obtain ⟨f, hf⟩ : ∃ f, R X 6 = f := ⟨_, rfl⟩; rw [hf] at hrep; have hF := zcl_fr hc hf; have hrz := zA_rz hn; have h0 := hwf.1; have lof := zs_fa_lo (zcl_fa6 hc hf)
  have wN := hwf.2.2.1
  have w6 := hwf.2.2.2.2.2
  by_cases gk : 0 ≤ k ∧ k < P 493
  · have wk := hwf.2.2.2.1 k gk.1 gk.2
    by_cases gv : 0 ≤ v ∧ v ≤ 1
    · obtain ⟨Q, hQ⟩ : ∃ Q, Q = zt_up P (496 + 3 * k) v := ⟨_, rfl⟩
      obtain ⟨I1, hI1⟩ : ∃ I1, I1 = zi_up I (f + 7) k v := ⟨_, rfl⟩
      have rp1 : zv_rep I1 f Q := by rw [hI1, hQ]; exact zv_shut hrep hwf gk
      have wp1 : zw_page Q := by rw [hQ]; exact zw_shut hwf gk gv
      have i1 : ∀ q, q ≠ f + 7 → I1 q = I q := fun q hq => by rw [hI1]; exact zu_off hq
      have Q8 : Q 518 = P 518 := by rw [hQ]; exact zt_up_ne (by omega)
      have Q0 : Q 0 = P 0 := by rw [hQ]; exact zt_up_ne (by omega)
      have QN : Q 493 = P 493 := by rw [hQ]; exact zt_up_ne (by omega)
      have Qa : ∀ j, Q (494 + 3 * j) = P (494 + 3 * j) := fun j => by rw [hQ]; exact zt_up_ne (by omega)
      have Qb : ∀ j, Q (495 + 3 * j) = P (495 + 3 * j) := fun j => by rw [hQ]; exact zt_up_ne (by omega)
      have Qs : ∀ j, j ≠ k → Q (496 + 3 * j) = P (496 + 3 * j) := fun j hj => by rw [hQ]; exact zt_up_ne (by omega)
      have Qk : Q (496 + 3 * k) = v := by rw [hQ]; exact zt_up_eq rfl
      have ss := fun d => zx_setShut (d := d) (I := I) (T := T) (l := k) (v := v) (zfr_fo hF)
      simp only [zk_pt_in (show 0 ≤ k ∧ k < 8 by omega), show f + 4 + 3 = f + 7 by omega, ← hI1] at ss
      have c6 : I1 f 2 = P 518 := by rw [rp1.2.2.2.2.2.1, Q8]
      have sc := fun d => zzc_isShut (d := d) (T := T) (k := k) hF hrep hwf gk
      obtain ⟨u, hu⟩ : ∃ u, zq (P (496 + 3 * k) = 1) = u := ⟨_, rfl⟩
      have u01 : u = 0 ∨ u = 1 := by
        rw [← hu]
        exact zq01
      simp only [hu] at sc
      have cut : ∀ (r' : zR), (∀ w', zi_run zt_120 (zG (d + 9)) (w' + 1) 40 [some (.inr (.inr X)), some (.inl k), some (.inl v), some (.inr (.inr (f + 4))), none] [.inl u] (S, I, R, T) = r') → zG (d + 10) 120 [.inr (.inr X), .inl k, .inl v] (S, I, R, T) = r' := fun r' hr => by
        rw [zm_120]
        rcases (show v = 0 ∨ v = 1 by omega) with e | e <;> subst e <;> rcases u01 with e2 | e2 <;> subst e2
        · ((try simp only [zbd_conv]); simp (disch := first | assumption | omega | trivial) only [↓reduceIte, zbd_some, eq_self, Int.reduceEq, Int.reduceLT, Int.reduceLE, and_self, or_true, true_or, or_false, false_or, if_pos, if_neg, if_true, if_false, true_and, and_true, not_true_eq_false, not_false_eq_true, false_and, and_false, Option.bind_some, zq_t, zq_f, zq0, zq1, zw_id, zcl_x1 hc, hf, zfr_k hF, zfr_r0 hF, zfr_r1 hF, zfr_lk hF, zfr_fk hF, zcl_c3 hc, (zcl_sc hc).2.1, zzc_Fhas hF hrep, sc])
          exact hr 1019998
        · ((try simp only [zbd_conv]); simp (disch := first | assumption | omega | trivial) only [↓reduceIte, zbd_some, eq_self, Int.reduceEq, Int.reduceLT, Int.reduceLE, and_self, or_true, true_or, or_false, false_or, if_pos, if_neg, if_true, if_false, true_and, and_true, not_true_eq_false, not_false_eq_true, false_and, and_false, Option.bind_some, zq_t, zq_f, zq0, zq1, zw_id, zcl_x1 hc, hf, zfr_k hF, zfr_r0 hF, zfr_r1 hF, zfr_lk hF, zfr_fk hF, zcl_c3 hc, (zcl_sc hc).2.1, zzc_Fhas hF hrep, sc])
          exact hr 1019998
        · ((try simp only [zbd_conv]); simp (disch := first | assumption | omega | trivial) only [↓reduceIte, zbd_some, eq_self, Int.reduceEq, Int.reduceLT, Int.reduceLE, and_self, or_true, true_or, or_false, false_or, if_pos, if_neg, if_true, if_false, true_and, and_true, not_true_eq_false, not_false_eq_true, false_and, and_false, Option.bind_some, zq_t, zq_f, zq0, zq1, zw_id, zcl_x1 hc, hf, zfr_k hF, zfr_r0 hF, zfr_r1 hF, zfr_lk hF, zfr_fk hF, zcl_c3 hc, (zcl_sc hc).2.1, zzc_Fhas hF hrep, sc])
          exact hr 1019998
        · ((try simp only [zbd_conv]); simp (disch := first | assumption | omega | trivial) only [↓reduceIte, zbd_some, eq_self, Int.reduceEq, Int.reduceLT, Int.reduceLE, and_self, or_true, true_or, or_false, false_or, if_pos, if_neg, if_true, if_false, true_and, and_true, not_true_eq_false, not_false_eq_true, false_and, and_false, Option.bind_some, zq_t, zq_f, zq0, zq1, zw_id, zcl_x1 hc, hf, zfr_k hF, zfr_r0 hF, zfr_r1 hF, zfr_lk hF, zfr_fk hF, zcl_c3 hc, (zcl_sc hc).2.1, zzc_Fhas hF hrep, sc])
          exact hr 1019998
      by_cases gh : zt_hid Q (P 518)
      · obtain ⟨l, hl⟩ : ∃ l, P (494 + 3 * k) = l := ⟨_, rfl⟩
        have fc := zzc_firstOf (d := d + 7) (T := T) (I := I1) hF rp1 wp1 (k := k) (by rw [QN]; exact gk)
        rw [Qa, hl] at fc
        have hll : 0 ≤ l ∧ l < P 0 := by omega
        have mv := zx_mv (d := d + 5) (I := I1) (T := T) hc hf (l := l) (p := 0) (by omega) (by omega)
        -- the fold hides the caret's line; its first line isn't hidden
        have kin : v = 1 ∧ P (494 + 3 * k) < P 518 ∧ P 518 ≤ P (495 + 3 * k) := by
          obtain ⟨j, ⟨j1, j2⟩, j3, j4, j5⟩ := gh
          rw [Qa] at j4
          rw [Qb] at j5
          rw [QN] at j2
          by_cases gj : j = k
          · rw [gj] at j3 j4 j5
            rw [Qk] at j3
            exact ⟨j3, j4, j5⟩
          · rw [Qs j gj] at j3
            exact absurd ⟨j, ⟨j1, j2⟩, j3, j4, j5⟩ hcs.2
        have nhl : ¬ zt_hid Q l := by
          rintro ⟨j, ⟨j1, j2⟩, j3, j4, j5⟩
          rw [Qa] at j4
          rw [Qb] at j5
          rw [QN] at j2
          by_cases gj : j = k
          · rw [gj] at j4
            omega
          · rw [Qs j gj] at j3
            have wj := (hwf.2.2.2.1 j j1 j2).1
            refine hcs.2 ⟨j, ⟨j1, j2⟩, j3, by omega, ?_⟩
            rcases (show j < k ∨ k < j by omega) with q | q
            · have ne := hwf.2.2.2.2.1 j k j1 q gk.2
              unfold zf_nest at ne
              omega
            · have ne := hwf.2.2.2.2.1 k j gk.1 q j2
              unfold zf_nest at ne
              omega
        have n1 : zA_now S I1 R X Q w t m e := by
          refine ⟨hc, ⟨by rw [hf]; exact rp1, wp1⟩, ?_, fun l' l1 l2 => ?_⟩
          · unfold zA_set at *
            rw [i1 (X + 4) (by omega)]
            exact hset
          · rw [Q0] at l2
            have hnl := hwf.2.1 l' l1 l2
            exact zl_laid_congr (P := P) (zl_laid_mem (hlay l' l1 l2) (by omega) (fun q q1 q2 => i1 q (by omega))) (by omega) (by rw [hQ]; exact zt_up_ne (by omega)) (fun i i1 i2 => by rw [hQ]; exact zt_up_ne (by omega))
        have hnl := zA_len n1 (l := l) (by rw [Q0]; exact hll)
        have n2 := zA_mvn (K := zp_mv I1 X f l 0 (I1 (X + 135 + 11 + 9 * l + 2) 0)) n1 hf (l := l) (p := 0) (by rw [Q0]; exact hll) ⟨by omega, hnl.1⟩ (fun q q1 q2 => zp_mv_off q1 q2) (zp_mv_f (by omega))
        have st := (zA_ends n1 (l := l) (by rw [Q0]; exact hll)).1
        refine ⟨u, zp_mv I1 X f l 0 (I1 (X + 135 + 11 + 9 * l + 2) 0), _, cut _ (fun w' => ?_), n2, ⟨⟨_, zA_settled n2 ?_⟩, ?_⟩, zA_his_I hhis ?_ (fun k k1 k2 q q1 q2 => ?_)⟩
        · rw [zk_120_40]
          ((try simp only [zbd_conv]); simp (disch := first | assumption | omega | trivial) only [↓reduceIte, zbd_some, eq_self, Int.reduceEq, Int.reduceLT, Int.reduceLE, and_self, or_true, true_or, or_false, false_or, if_pos, if_neg, if_true, if_false, true_and, and_true, not_true_eq_false, not_false_eq_true, false_and, and_false, Option.bind_some, zq_t, zq_f, zq0, zq1, zw_id, zcl_x1 hc, hf, zfr_k hF, zfr_r0 hF, zfr_r1 hF, zfr_lk hF, zfr_fk hF, zcl_c3 hc, (zcl_sc hc).2.1, ss, c6, zzc_hides hF rp1 wp1, gh, fc, mv])
        · rw [zt_mv8, zt_mv9, zp_mv_off (by omega) (by omega)]
          exact st
        · rw [zt_mv8, zt_hid_congr wp1 (fun j j1 j2 => zt_mv j j2)]
          exact nhl
        · rw [zp_mv_off (by omega) (by omega), i1 _ (by omega)]
        · have := zA_fr hc hf ⟨k1, k2⟩
          rw [zp_mv_off (by omega) (by omega), i1 _ (by omega)]
      · refine ⟨u, I1, Q, cut _ (fun w' => ?_), zA_page h hf (fun q q1 => i1 q (by omega)) rp1 wp1 (fun j hj => by rw [hQ]; exact zt_up_ne (by omega)) (by rw [Q8]; exact gh)⟩
        rw [zk_120_40]
        ((try simp only [zbd_conv]); simp (disch := first | assumption | omega | trivial) only [↓reduceIte, zbd_some, eq_self, Int.reduceEq, Int.reduceLT, Int.reduceLE, and_self, or_true, true_or, or_false, false_or, if_pos, if_neg, if_true, if_false, true_and, and_true, not_true_eq_false, not_false_eq_true, false_and, and_false, Option.bind_some, zq_t, zq_f, zq0, zq1, zw_id, zcl_x1 hc, hf, zfr_k hF, zfr_r0 hF, zfr_r1 hF, zfr_lk hF, zfr_fk hF, zcl_c3 hc, (zcl_sc hc).2.1, ss, c6, zzc_hides hF rp1 wp1, gh])
    · refine ⟨-1, I, P, ?_, h⟩
      rw [zm_120]
      ((try simp only [zbd_conv]); simp (disch := first | assumption | omega | trivial) only [↓reduceIte, zbd_some, eq_self, Int.reduceEq, Int.reduceLT, Int.reduceLE, and_self, or_true, true_or, or_false, false_or, if_pos, if_neg, if_true, if_false, true_and, and_true, not_true_eq_false, not_false_eq_true, false_and, and_false, Option.bind_some, zq_t, zq_f, zq0, zq1, zw_id, zcl_x1 hc, hf, zfr_k hF, zfr_r0 hF, zfr_r1 hF, zfr_lk hF, zfr_fk hF, zcl_c3 hc, (zcl_sc hc).2.1, zzc_Fhas hF hrep])
  · refine ⟨-1, I, P, ?_, h⟩
    rw [zm_120]
    ((try simp only [zbd_conv]); simp (disch := first | assumption | omega | trivial) only [↓reduceIte, zbd_some, eq_self, Int.reduceEq, Int.reduceLT, Int.reduceLE, and_self, or_true, true_or, or_false, false_or, if_pos, if_neg, if_true, if_false, true_and, and_true, not_true_eq_false, not_false_eq_true, false_and, and_false, Option.bind_some, zq_t, zq_f, zq0, zq1, zw_id, zcl_x1 hc, hf, zfr_k hF, zfr_r0 hF, zfr_r1 hF, zfr_lk hF, zfr_fk hF, zcl_c3 hc, (zcl_sc hc).2.1, zzc_Fhas hF hrep])
theorem zA_setno (hc : zs_cl S R X) (ha : ¬ zf_allow x v) : zG (d + 10) 121 [.inr (.inr X), .inl x, .inl v] (S, I, R, T) = some (-1, (S, I, R, T)) := by
  rw [zm_121]
  ((try simp only [zbd_conv]); simp (disch := first | assumption | omega | trivial) only [↓reduceIte, zbd_some, eq_self, Int.reduceEq, Int.reduceLT, Int.reduceLE, and_self, or_true, true_or, or_false, false_or, if_pos, if_neg, if_true, if_false, true_and, and_true, not_true_eq_false, not_false_eq_true, false_and, and_false, Option.bind_some, zq_t, zq_f, zq0, zq1, zw_id, zx_allows])
theorem zA_setting (h : zA S I R X P w t m e nd nu) (ha : zf_allow x v) : ∃ J y, zG (d + 10) 121 [.inr (.inr X), .inl x, .inl v] (S, I, R, T) = some ((if x = 0 then w else if x = 1 then t else if x = 2 then m else e), (S, J, R, T)) ∧ zA S J R X (zt_up P 519 y) (if x = 0 then v else w) (if x = 1 then v else t) (if x = 2 then v else m) (if x = 3 then v else e) nd nu ∧ J X 8 = J (X + 135 + 11 + 9 * P 518 + 2) y ∧ ∀ q, X + 272 ≤ q → q < X + 292 → J q = I q := by
  obtain ⟨hn, hcs, hhis⟩ := id h
  obtain ⟨hc, ⟨hrep, hwf⟩, hset, hlay⟩ := id hn; obtain ⟨f, hf⟩ : ∃ f, R X 6 = f := ⟨_, rfl⟩; rw [hf] at hrep; have hF := zcl_fr hc hf; have hrz := zA_rz hn; have h0 := hwf.1; have lof := zs_fa_lo (zcl_fa6 hc hf)
  have hx : 0 ≤ x ∧ x ≤ 3 := by unfold zf_allow at ha; omega
  have s1 := (zcl_se hc).2
  obtain ⟨J0, hJ0⟩ : ∃ J0, J0 = zi_up I (X + 4) x v := ⟨_, rfl⟩
  have j0 : ∀ q, q ≠ X + 4 → J0 q = I q := fun q hq => by rw [hJ0, zu_off hq]
  obtain ⟨⟨t0, t1, t2, t3⟩, st⟩ := id hset
  have set0 : zA_set J0 X (if x = 0 then v else w) (if x = 1 then v else t) (if x = 2 then v else m) (if x = 3 then v else e) := by
    unfold zf_allow at ha
    unfold zA_set
    rw [hJ0]
    rcases (show x = 0 ∨ x = 1 ∨ x = 2 ∨ x = 3 by omega) with q | q | q | q <;> subst q
    · rw [zu_eq (by omega), zu_ne (by omega), zu_ne (by omega), zu_ne (by omega), if_pos rfl, if_neg (by omega), if_neg (by omega), if_neg (by omega)]; exact ⟨⟨rfl, t1, t2, t3⟩, by omega⟩
    · rw [zu_ne (by omega), zu_eq (by omega), zu_ne (by omega), zu_ne (by omega), if_pos rfl, if_neg (by omega), if_neg (by omega), if_neg (by omega)]; exact ⟨⟨t0, rfl, t2, t3⟩, by omega⟩
    · rw [zu_ne (by omega), zu_ne (by omega), zu_eq (by omega), zu_ne (by omega), if_pos rfl, if_neg (by omega), if_neg (by omega), if_neg (by omega)]; exact ⟨⟨t0, t1, rfl, t3⟩, by omega⟩
    · rw [zu_ne (by omega), zu_ne (by omega), zu_ne (by omega), zu_eq (by omega), if_pos rfl, if_neg (by omega), if_neg (by omega), if_neg (by omega)]; exact ⟨⟨t0, t1, t2, rfl⟩, by omega⟩
  obtain ⟨J, l1, l2⟩ := zA_layall (d := d + 2) (T := T) (J2 := J0) set0 hc hf rfl (zv_rep_congr hrep (fun q q1 q2 => j0 q (by omega))) hwf
  obtain ⟨y, c, a1, a2, a3, a4⟩ := zA_full hc hf hwf hcs.2 set0 (zA_his_I hhis (j0 _ (by omega)) (fun k k1 k2 q q1 q2 => by
    have := zA_fr hc hf ⟨k1, k2⟩
    exact j0 q (by omega))) l2
  have hv : I (X + 4) x = (if x = 0 then w else if x = 1 then t else if x = 2 then m else e) := by
    rcases (show x = 0 ∨ x = 1 ∨ x = 2 ∨ x = 3 by omega) with q | q | q | q <;> subst q
    · exact t0
    · exact t1
    · exact t2
    · exact t3
  have ch := fun d => zx_change (d := d) (I := I) (R := R) (T := T) (v := v) (zcl_se hc) hx
  simp only [← hJ0, hv] at ch
  generalize (if x = 0 then w else if x = 1 then t else if x = 2 then m else e) = old at ch ⊢
  obtain ⟨b1, ⟨⟨c', b2⟩, -⟩, -⟩ := id a3
  have b3 := (zA_stop b1 b2).2
  have b4 := zl_settle_set hwf a1
  have b5 := (zA_stop b1 b4).2
  rw [show zt_up P 519 y 518 = P 518 from zt_up_ne (by omega), show zt_up P 519 y 519 = y from zt_up_eq rfl] at b5
  refine ⟨J, y, ?_, a3, by rw [a2, b5], fun q q1 q2 => by rw [a4 q (by omega) (by omega) (by omega), j0 q (by omega)]⟩
  rw [zm_121]
  ((try simp only [zbd_conv]); simp (disch := first | assumption | omega | trivial) only [↓reduceIte, zbd_some, eq_self, Int.reduceEq, Int.reduceLT, Int.reduceLE, and_self, or_true, true_or, or_false, false_or, if_pos, if_neg, if_true, if_false, true_and, and_true, not_true_eq_false, not_false_eq_true, false_and, and_false, Option.bind_some, zq_t, zq_f, zq0, zq1, zw_id, zx_allows, zcl_x1 hc, zcl_c1 hc, s1, ch, l1])
/-- the image that was kept -/
def zA_img (I : zI) (X : Int) (P : Int → Int) (w t m e : Int) : Prop := I (X + 272) 2 = 1 ∧ zv_rep I (X + 273) P ∧ I (X + 281) 0 = w ∧ I (X + 281) 1 = t ∧ I (X + 281) 2 = m ∧ I (X + 281) 3 = e
theorem zA_img_I (h : zA_img I X P w t m e) (hq : ∀ q, X + 272 ≤ q → q < X + 292 → J q = I q) : zA_img J X P w t m e := by
  obtain ⟨h1, h2, h3⟩ := h
  refine ⟨by rw [hq _ (by omega) (by omega)]; exact h1, zv_rep_congr h2 (fun q q1 q2 => hq q (by omega) (by omega)), by rw [hq _ (by omega) (by omega)]; exact h3⟩
theorem zA_keep (h : zA S I R X P w t m e nd nu) : ∃ y J, zG (d + 10) 122 [.inr (.inr X), .inl 0] (S, I, R, T) = some (y, (S, J, R, T)) ∧ 0 ≤ y ∧ zA S J R X P w t m e nd nu ∧ zA_img J X P w t m e := by
  obtain ⟨hn, hcs, hhis⟩ := id h
  obtain ⟨hc, ⟨hrep, hwf⟩, hset, hlay⟩ := id hn; obtain ⟨f, hf⟩ : ∃ f, R X 6 = f := ⟨_, rfl⟩; rw [hf] at hrep; have hF := zcl_fr hc hf; have hrz := zA_rz hn; have h0 := hwf.1; have lof := zs_fa_lo (zcl_fa6 hc hf)
  obtain ⟨⟨t0, t1, t2, t3⟩, st⟩ := id hset
  have io := fun d => zx_imageOf (d := d) (I := I) (T := T) (k := 0) hc
  simp only [if_pos (show (0 : Int) ≤ 0 ∧ (0 : Int) < 2 by omega)] at io
  obtain ⟨y, hy⟩ : ∃ y, y = X + 272 + 10 * 0 := ⟨_, rfl⟩
  have him := zcl_im hc (k := 0) (by omega)
  rw [← hy] at io him
  have hy2 : y = X + 272 := by omega
  obtain ⟨y0, y3, yr0, yr1, yse⟩ := him
  have yne : ¬ y = 0 := by omega
  have hG : zs_fr S R (y + 1) := zcl_fb hc (Or.inr (Or.inl (by omega)))
  obtain ⟨J0, hJ0⟩ : ∃ J0, J0 = zi_up I y 2 1 := ⟨_, rfl⟩
  have j0 : ∀ q, q ≠ y → J0 q = I q := fun q hq => by rw [hJ0, zu_off hq]
  obtain ⟨J1, a1, a2, a3⟩ := zx_FrCopy (d := d + 5) (I := J0) (T := T) hG hF (by omega)
  have rep1 := zv_freq_rep a3 (zv_rep_congr hrep (fun q q1 q2 => j0 q (by omega))) hwf
  have j1 : ∀ q, q ≠ y → (q < y + 1 ∨ y + 9 ≤ q) → J1 q = I q := fun q q1 q2 => by rw [a2 q (by omega), j0 q q1]
  have cs := fun d => zx_SecopyFrom (d := d) (I := J1) (R := R) (T := T) yse (zcl_se hc)
  have X4 : J1 (X + 4) = I (X + 4) := j1 _ (by omega) (by omega)
  simp only [X4, t0, t1, t2, t3] at cs
  obtain ⟨J, hJ⟩ : ∃ J, J = zi_up (zi_up (zi_up (zi_up J1 (y + 9) 0 w) (y + 9) 1 t) (y + 9) 2 m) (y + 9) 3 e := ⟨_, rfl⟩
  simp only [← hJ] at cs
  have jq : ∀ q, q ≠ y + 9 → J q = J1 q := fun q hq => by rw [hJ, zu_off hq, zu_off hq, zu_off hq, zu_off hq]
  have jI : ∀ q, (q < y ∨ y + 10 ≤ q) → J q = I q := fun q hq => by rw [jq q (by omega), j1 q (by omega) (by omega)]
  have J9 : J (y + 9) 0 = w ∧ J (y + 9) 1 = t ∧ J (y + 9) 2 = m ∧ J (y + 9) 3 = e := by
    rw [hJ]
    refine ⟨?_, ?_, ?_, ?_⟩
    · rw [zu_ne (by omega), zu_ne (by omega), zu_ne (by omega), zu_eq ⟨rfl, rfl⟩]
    · rw [zu_ne (by omega), zu_ne (by omega), zu_eq ⟨rfl, rfl⟩]
    · rw [zu_ne (by omega), zu_eq ⟨rfl, rfl⟩]
    · rw [zu_eq ⟨rfl, rfl⟩]
  have Jy : J y 2 = 1 := by rw [jq y (by omega), a2 y (by omega), hJ0, zu_eq ⟨rfl, rfl⟩]
  have fin : zA S J R X P w t m e nd nu := zA_I h (fun q q1 q2 => jI q (by omega))
  have img : zA_img J X P w t m e := by
    refine ⟨by rw [← hy2]; exact Jy, zv_rep_congr (f := X + 273) (I := J1) ?_ (fun q q1 q2 => jq q (by omega)), ?_⟩
    · rw [show X + 273 = y + 1 by omega]; exact rep1
    · rw [show X + 281 = y + 9 by omega]; exact J9
  by_cases o1 : I y 2 = 0
  · refine ⟨0, J, ?_, by omega, fin, img⟩
    rw [zm_122]
    ((try simp only [zbd_conv]); simp (disch := first | assumption | omega | trivial) only [↓reduceIte, zbd_some, eq_self, Int.reduceEq, Int.reduceLT, Int.reduceLE, and_self, or_true, true_or, or_false, false_or, if_pos, if_neg, if_true, if_false, true_and, and_true, not_true_eq_false, not_false_eq_true, false_and, and_false, Option.bind_some, zq_t, zq_f, zq0, zq1, zw_id, zcl_x1 hc, hf, zfr_k hF, zfr_r0 hF, zfr_r1 hF, zfr_lk hF, zfr_fk hF, zcl_c3 hc, (zcl_sc hc).2.1, zcl_c1 hc, io, yne, y3, o1, zwr, ← hJ0, yr0, yr1, (zfr_k hG), a1, yse.2, cs])
  · refine ⟨1, J, ?_, by omega, fin, img⟩
    rw [zm_122]
    ((try simp only [zbd_conv]); simp (disch := first | assumption | omega | trivial) only [↓reduceIte, zbd_some, eq_self, Int.reduceEq, Int.reduceLT, Int.reduceLE, and_self, or_true, true_or, or_false, false_or, if_pos, if_neg, if_true, if_false, true_and, and_true, not_true_eq_false, not_false_eq_true, false_and, and_false, Option.bind_some, zq_t, zq_f, zq0, zq1, zw_id, zcl_x1 hc, hf, zfr_k hF, zfr_r0 hF, zfr_r1 hF, zfr_lk hF, zfr_fk hF, zcl_c3 hc, (zcl_sc hc).2.1, zcl_c1 hc, io, yne, y3, o1, zwr, ← hJ0, yr0, yr1, (zfr_k hG), a1, yse.2, cs])
theorem zA_back (h : zA S I R X Q x y k z nd nu) (hi : zA_img I X P w t m e) (hse : (4 ≤ w ∧ w ≤ 40) ∧ (1 ≤ t ∧ t ≤ 8) ∧ (0 ≤ m ∧ m ≤ 2) ∧ 0 ≤ e ∧ e ≤ 7) (wP : zw_page P) (nP : ¬ zt_hid P (P 518)) (sP : ∃ c, zl_settle P w t m e (P 519) c) : ∃ J, zG (d + 10) 123 [.inr (.inr X), .inl 0] (S, I, R, T) = some (P 0, (S, J, R, T)) ∧ zA S J R X P w t m e 0 0 := by
  obtain ⟨hn, hcs, hhis⟩ := id h
  obtain ⟨hc, ⟨hrep, hwf⟩, hset, hlay⟩ := id hn; obtain ⟨f, hf⟩ : ∃ f, R X 6 = f := ⟨_, rfl⟩; rw [hf] at hrep; have hF := zcl_fr hc hf; have hrz := zA_rz hn; have h0 := hwf.1; have lof := zs_fa_lo (zcl_fa6 hc hf)
  have fa := zcl_fa6 hc hf
  have io := fun d => zx_imageOf (d := d) (I := I) (T := T) (k := 0) hc
  simp only [if_pos (show (0 : Int) ≤ 0 ∧ (0 : Int) < 2 by omega)] at io
  obtain ⟨Y, hy⟩ : ∃ Y, Y = X + 272 + 10 * 0 := ⟨_, rfl⟩
  have him := zcl_im hc (k := 0) (by omega)
  rw [← hy] at io him
  have hy2 : Y = X + 272 := by omega
  obtain ⟨y0, y3, yr0, yr1, yse⟩ := him
  have yne : ¬ Y = 0 := by omega
  have hG : zs_fr S R (Y + 1) := zcl_fb hc (Or.inr (Or.inl (by omega)))
  obtain ⟨o1, irep, i0, i1, i2, i3⟩ := hi
  rw [show X + 273 = Y + 1 by omega] at irep
  rw [show X + 281 = Y + 9 by omega] at i0 i1 i2 i3
  rw [← hy2] at o1
  have y2 : ¬ I Y 2 = 0 := by omega
  obtain ⟨J1, a1, a2, a3⟩ := zx_FrCopy (d := d + 5) (I := I) (T := T) hF hG (by omega)
  have rep0 := zv_freq_rep a3 irep wP
  have j1 : ∀ q, (q < f ∨ f + 8 ≤ q) → J1 q = I q := fun q q1 => a2 q q1
  have cs := fun d => zx_SecopyFrom (d := d) (I := J1) (R := R) (T := T) (zcl_se hc) yse
  simp only [j1 (Y + 9) (by omega), i0, i1, i2, i3] at cs
  obtain ⟨J2, hJ2⟩ : ∃ J2, J2 = zi_up (zi_up (zi_up (zi_up J1 (X + 4) 0 w) (X + 4) 1 t) (X + 4) 2 m) (X + 4) 3 e := ⟨_, rfl⟩
  simp only [← hJ2] at cs
  have fg := fun d => zx_forget (d := d) (I := J2) (T := T) (zcl_hi hc)
  obtain ⟨J3, hJ3⟩ : ∃ J3, J3 = zi_up (zi_up J2 (X + 5) 1 0) (X + 5) 2 0 := ⟨_, rfl⟩
  simp only [← hJ3] at fg
  have j3 : ∀ q, q ≠ X + 4 → q ≠ X + 5 → J3 q = J1 q := fun q q1 q2 => by
    rw [hJ3, zu_off q2, zu_off q2, hJ2, zu_off q1, zu_off q1, zu_off q1, zu_off q1]
  have j34 : J3 (X + 4) = J2 (X + 4) := by rw [hJ3, zu_off (by omega), zu_off (by omega)]
  have s0 : J3 (X + 4) 0 = w := by rw [j34, hJ2, zu_ne (by omega), zu_ne (by omega), zu_ne (by omega), zu_eq ⟨rfl, rfl⟩]
  have s1 : J3 (X + 4) 1 = t := by rw [j34, hJ2, zu_ne (by omega), zu_ne (by omega), zu_eq ⟨rfl, rfl⟩]
  have s2 : J3 (X + 4) 2 = m := by rw [j34, hJ2, zu_ne (by omega), zu_eq ⟨rfl, rfl⟩]
  have s3 : J3 (X + 4) 3 = e := by rw [j34, hJ2, zu_eq ⟨rfl, rfl⟩]
  have h51 : J3 (X + 5) 1 = 0 := by rw [hJ3, zu_ne (by omega), zu_eq ⟨rfl, rfl⟩]
  have h52 : J3 (X + 5) 2 = 0 := by rw [hJ3, zu_eq ⟨rfl, rfl⟩]
  have rep3 : zv_rep J3 f P := zv_rep_congr rep0 (fun q q1 q2 => j3 q (by omega) (by omega))
  have set3 : zA_set J3 X w t m e := ⟨⟨s0, s1, s2, s3⟩, hse⟩
  obtain ⟨J, l1, l2⟩ := zA_layall (d := d + 2) (T := T) (J2 := J3) set3 hc hf rfl rep3 wP
  obtain ⟨v, c, b1, b2, b3, b4⟩ := zA_full hc hf wP nP set3 (nd := 0) (nu := 0) ⟨⟨h51, h52⟩, by omega, fun k k1 k2 => by omega⟩ l2
  rw [zA_stay wP sP b1] at b3
  refine ⟨J, ?_, b3⟩
  have cr : J (f + 1) 0 = P 0 := by
    have := b3.1.2.1.1.1
    rw [hf] at this
    exact this
  rw [zm_123]
  ((try simp only [zbd_conv]); simp (disch := first | assumption | omega | trivial) only [↓reduceIte, zbd_some, eq_self, Int.reduceEq, Int.reduceLT, Int.reduceLE, and_self, or_true, true_or, or_false, false_or, if_pos, if_neg, if_true, if_false, true_and, and_true, not_true_eq_false, not_false_eq_true, false_and, and_false, Option.bind_some, zq_t, zq_f, zq0, zq1, zw_id, zcl_x1 hc, hf, zfr_k hF, zfr_r0 hF, zfr_r1 hF, zfr_lk hF, zfr_fk hF, zcl_c3 hc, (zcl_sc hc).2.1, zcl_c1 hc, zcl_c2 hc, (zcl_hi hc).2.1, (zcl_se hc).2, io, yne, y3, y2, yr0, yr1, a1, cs, fg, l1, cr])
end ZAb
