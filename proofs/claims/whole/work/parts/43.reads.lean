/-! what there is: both answer the same -/
section ZRe
variable {d : Nat} {S : zS} {I J K R : zI} {T : Int × Nat} {X M n v l f c k x y z r i p : Int}
theorem zz_fault (h : zR4 S I R X M) : zz_ok (d + 11) S I R T X M 109 173 [] := by
  obtain ⟨hc, hm, hap, hall⟩ := id h
  obtain ⟨-, -, -, -, -, -, hnum, -⟩ := zR4_facts h
  refine zz_read (v := I X 9) h ?_ ?_ zo_ly_refl
  · rw [zm_109]
    ((try simp only [zbd_conv]); simp (disch := first | assumption | omega | trivial) only [↓reduceIte, zbd_some, eq_self, Int.reduceEq, Int.reduceLT, Int.reduceLE, and_self, or_true, true_or, or_false, false_or, if_pos, if_neg, if_true, if_false, true_and, and_true, not_true_eq_false, not_false_eq_true, false_and, and_false, Option.bind_some, zq_t, zq_f, zq0, zq1, zw_id, zcl_x1 hc])
  · rw [zm_173]
    ((try simp only [zbd_conv]); simp (disch := first | assumption | omega | trivial) only [↓reduceIte, zbd_some, eq_self, Int.reduceEq, Int.reduceLT, Int.reduceLE, and_self, or_true, true_or, or_false, false_or, if_pos, if_neg, if_true, if_false, true_and, and_true, not_true_eq_false, not_false_eq_true, false_and, and_false, Option.bind_some, zq_t, zq_f, zq0, zq1, zw_id, zmo_1 hm, hnum.2])
theorem zz_sign (h : zR4 S I R X M) : zz_ok (d + 11) S I R T X M 111 191 [.inl l, .inl i] := by
  obtain ⟨hc, hm, hap, hall⟩ := id h
  obtain ⟨⟨hrep, hwf⟩, -⟩ := zR4_facts h
  obtain ⟨f, hf⟩ : ∃ f, R X 6 = f := ⟨_, rfl⟩
  rw [hf] at hrep
  have hF := zcl_fr hc hf
  have h0 := hwf.1
  have oo : zo_ly I I M := zo_ly_refl
  by_cases g1 : 0 ≤ l ∧ l < I (M + 1) 0
  · have hn := hwf.2.1 l g1.1 g1.2
    by_cases g2 : i < 0
    · refine zz_read (v := -1) h ?_ ?_ oo
      · rw [zm_111]
        ((try simp only [zbd_conv]); simp (disch := first | assumption | omega | trivial) only [↓reduceIte, zbd_some, eq_self, Int.reduceEq, Int.reduceLT, Int.reduceLE, and_self, or_true, true_or, or_false, false_or, if_pos, if_neg, if_true, if_false, true_and, and_true, not_true_eq_false, not_false_eq_true, false_and, and_false, Option.bind_some, zq_t, zq_f, zq0, zq1, zw_id, zcl_x1 hc, hf, zfr_k hF, zfr_r0 hF, zfr_r1 hF, zfr_lk hF, zfr_fk hF, zcl_c3 hc, (zcl_sc hc).2.1, zzc_has hF hrep])
      · rw [zm_191]
        ((try simp only [zbd_conv]); simp (disch := first | assumption | omega | trivial) only [↓reduceIte, zbd_some, eq_self, Int.reduceEq, Int.reduceLT, Int.reduceLE, and_self, or_true, true_or, or_false, false_or, if_pos, if_neg, if_true, if_false, true_and, and_true, not_true_eq_false, not_false_eq_true, false_and, and_false, Option.bind_some, zq_t, zq_f, zq0, zq1, zw_id, zmo_1 hm, zmo_r0 hm, zmo_s1 hm, zzm_isLine hm hwf oo])
    · by_cases g3 : i < I (M + 1) (1 + l)
      · refine zz_read (v := I (M + 1) (13 + 40 * l + i)) h ?_ ?_ oo
        · rw [zm_111]
          ((try simp only [zbd_conv]); simp (disch := first | assumption | omega | trivial) only [↓reduceIte, zbd_some, eq_self, Int.reduceEq, Int.reduceLT, Int.reduceLE, and_self, or_true, true_or, or_false, false_or, if_pos, if_neg, if_true, if_false, true_and, and_true, not_true_eq_false, not_false_eq_true, false_and, and_false, Option.bind_some, zq_t, zq_f, zq0, zq1, zw_id, zcl_x1 hc, hf, zfr_k hF, zfr_r0 hF, zfr_r1 hF, zfr_lk hF, zfr_fk hF, zcl_c3 hc, (zcl_sc hc).2.1, zzc_has hF hrep, zzc_length hF hrep hwf, zzc_signOf hF hrep hwf])
        · rw [zm_191]
          ((try simp only [zbd_conv]); simp (disch := first | assumption | omega | trivial) only [↓reduceIte, zbd_some, eq_self, Int.reduceEq, Int.reduceLT, Int.reduceLE, and_self, or_true, true_or, or_false, false_or, if_pos, if_neg, if_true, if_false, true_and, and_true, not_true_eq_false, not_false_eq_true, false_and, and_false, Option.bind_some, zq_t, zq_f, zq0, zq1, zw_id, zmo_1 hm, zmo_r0 hm, zmo_s1 hm, zzm_isLine hm hwf oo, zzm_len hm hwf oo, zy_signOf hm])
      · refine zz_read (v := -4) h ?_ ?_ oo
        · rw [zm_111]
          ((try simp only [zbd_conv]); simp (disch := first | assumption | omega | trivial) only [↓reduceIte, zbd_some, eq_self, Int.reduceEq, Int.reduceLT, Int.reduceLE, and_self, or_true, true_or, or_false, false_or, if_pos, if_neg, if_true, if_false, true_and, and_true, not_true_eq_false, not_false_eq_true, false_and, and_false, Option.bind_some, zq_t, zq_f, zq0, zq1, zw_id, zcl_x1 hc, hf, zfr_k hF, zfr_r0 hF, zfr_r1 hF, zfr_lk hF, zfr_fk hF, zcl_c3 hc, (zcl_sc hc).2.1, zzc_has hF hrep, zzc_length hF hrep hwf])
        · rw [zm_191]
          ((try simp only [zbd_conv]); simp (disch := first | assumption | omega | trivial) only [↓reduceIte, zbd_some, eq_self, Int.reduceEq, Int.reduceLT, Int.reduceLE, and_self, or_true, true_or, or_false, false_or, if_pos, if_neg, if_true, if_false, true_and, and_true, not_true_eq_false, not_false_eq_true, false_and, and_false, Option.bind_some, zq_t, zq_f, zq0, zq1, zw_id, zmo_1 hm, zmo_r0 hm, zmo_s1 hm, zzm_isLine hm hwf oo, zzm_len hm hwf oo])
  · refine zz_read (v := -1) h ?_ ?_ oo
    · rw [zm_111]
      ((try simp only [zbd_conv]); simp (disch := first | assumption | omega | trivial) only [↓reduceIte, zbd_some, eq_self, Int.reduceEq, Int.reduceLT, Int.reduceLE, and_self, or_true, true_or, or_false, false_or, if_pos, if_neg, if_true, if_false, true_and, and_true, not_true_eq_false, not_false_eq_true, false_and, and_false, Option.bind_some, zq_t, zq_f, zq0, zq1, zw_id, zcl_x1 hc, hf, zfr_k hF, zfr_r0 hF, zfr_r1 hF, zfr_lk hF, zfr_fk hF, zcl_c3 hc, (zcl_sc hc).2.1, zzc_has hF hrep])
    · rw [zm_191]
      ((try simp only [zbd_conv]); simp (disch := first | assumption | omega | trivial) only [↓reduceIte, zbd_some, eq_self, Int.reduceEq, Int.reduceLT, Int.reduceLE, and_self, or_true, true_or, or_false, false_or, if_pos, if_neg, if_true, if_false, true_and, and_true, not_true_eq_false, not_false_eq_true, false_and, and_false, Option.bind_some, zq_t, zq_f, zq0, zq1, zw_id, zmo_1 hm, zmo_r0 hm, zmo_s1 hm, zzm_isLine hm hwf oo])
theorem zx_imageCount (hc : zs_cl S R X) (h0 : I (X + 272) 2 = x) (h1 : I (X + 282) 2 = y) (hx : x = 0 ∨ x = 1) (hy : y = 0 ∨ y = 1) : zG (d + 2) 144 [.inr (.inr X)] (S, I, R, T) = some (x + y, (S, I, R, T)) := by
  have k0 := (zcl_im hc (k := 0) (by omega)).2.1
  have k1 := (zcl_im hc (k := 1) (by omega)).2.1
  have n0 := (zcl_im hc (k := 0) (by omega)).1
  have n1 := (zcl_im hc (k := 1) (by omega)).1
  have e0 : ∀ d, zG (d + 1) 146 [.inr (.inr X), .inl 0] (S, I, R, T) = some (X + 272, (S, I, R, T)) := fun d => by
    rw [zx_imageOf hc, if_pos (by omega)]; exact zr_val (by omega)
  have e1 : ∀ d, zG (d + 1) 146 [.inr (.inr X), .inl 1] (S, I, R, T) = some (X + 282, (S, I, R, T)) := fun d => by
    rw [zx_imageOf hc, if_pos (by omega)]; exact zr_val (by omega)
  rw [show X + 272 + 10 * 0 = X + 272 by omega] at k0 n0
  rw [show X + 272 + 10 * 1 = X + 282 by omega] at k1 n1
  have z0 : ¬ X + 272 = 0 := by omega
  have z1 : ¬ X + 282 = 0 := by omega
  rw [zm_144]
  show zi_run _ _ _ _ _ _ _ = _
  rw [zk_144_4]
  rcases hx with hx | hx <;> rcases hy with hy | hy <;> subst hx <;> subst hy
  · ((try simp only [zbd_conv]); simp (disch := first | assumption | omega | trivial) only [↓reduceIte, zbd_some, eq_self, Int.reduceEq, Int.reduceLT, Int.reduceLE, and_self, or_true, true_or, or_false, false_or, if_pos, if_neg, if_true, if_false, true_and, and_true, not_true_eq_false, not_false_eq_true, false_and, and_false, Option.bind_some, zq_t, zq_f, zq0, zq1, zw_id, Int.reduceAdd, zcl_x1 hc, e0, z0, k0, h0])
    rw [zk_144_4]
    ((try simp only [zbd_conv]); simp (disch := first | assumption | omega | trivial) only [↓reduceIte, zbd_some, eq_self, Int.reduceEq, Int.reduceLT, Int.reduceLE, and_self, or_true, true_or, or_false, false_or, if_pos, if_neg, if_true, if_false, true_and, and_true, not_true_eq_false, not_false_eq_true, false_and, and_false, Option.bind_some, zq_t, zq_f, zq0, zq1, zw_id, Int.reduceAdd, zcl_x1 hc, e1, z1, k1, h1])
    rw [zk_144_4]
    ((try simp only [zbd_conv]); simp (disch := first | assumption | omega | trivial) only [↓reduceIte, zbd_some, eq_self, Int.reduceEq, Int.reduceLT, Int.reduceLE, and_self, or_true, true_or, or_false, false_or, if_pos, if_neg, if_true, if_false, true_and, and_true, not_true_eq_false, not_false_eq_true, false_and, and_false, Option.bind_some, zq_t, zq_f, zq0, zq1, zw_id, Int.reduceAdd])
  · ((try simp only [zbd_conv]); simp (disch := first | assumption | omega | trivial) only [↓reduceIte, zbd_some, eq_self, Int.reduceEq, Int.reduceLT, Int.reduceLE, and_self, or_true, true_or, or_false, false_or, if_pos, if_neg, if_true, if_false, true_and, and_true, not_true_eq_false, not_false_eq_true, false_and, and_false, Option.bind_some, zq_t, zq_f, zq0, zq1, zw_id, Int.reduceAdd, zcl_x1 hc, e0, z0, k0, h0])
    rw [zk_144_4]
    ((try simp only [zbd_conv]); simp (disch := first | assumption | omega | trivial) only [↓reduceIte, zbd_some, eq_self, Int.reduceEq, Int.reduceLT, Int.reduceLE, and_self, or_true, true_or, or_false, false_or, if_pos, if_neg, if_true, if_false, true_and, and_true, not_true_eq_false, not_false_eq_true, false_and, and_false, Option.bind_some, zq_t, zq_f, zq0, zq1, zw_id, Int.reduceAdd, zcl_x1 hc, e1, z1, k1, h1])
    rw [zk_144_4]
    ((try simp only [zbd_conv]); simp (disch := first | assumption | omega | trivial) only [↓reduceIte, zbd_some, eq_self, Int.reduceEq, Int.reduceLT, Int.reduceLE, and_self, or_true, true_or, or_false, false_or, if_pos, if_neg, if_true, if_false, true_and, and_true, not_true_eq_false, not_false_eq_true, false_and, and_false, Option.bind_some, zq_t, zq_f, zq0, zq1, zw_id, Int.reduceAdd])
  · ((try simp only [zbd_conv]); simp (disch := first | assumption | omega | trivial) only [↓reduceIte, zbd_some, eq_self, Int.reduceEq, Int.reduceLT, Int.reduceLE, and_self, or_true, true_or, or_false, false_or, if_pos, if_neg, if_true, if_false, true_and, and_true, not_true_eq_false, not_false_eq_true, false_and, and_false, Option.bind_some, zq_t, zq_f, zq0, zq1, zw_id, Int.reduceAdd, zcl_x1 hc, e0, z0, k0, h0])
    rw [zk_144_4]
    ((try simp only [zbd_conv]); simp (disch := first | assumption | omega | trivial) only [↓reduceIte, zbd_some, eq_self, Int.reduceEq, Int.reduceLT, Int.reduceLE, and_self, or_true, true_or, or_false, false_or, if_pos, if_neg, if_true, if_false, true_and, and_true, not_true_eq_false, not_false_eq_true, false_and, and_false, Option.bind_some, zq_t, zq_f, zq0, zq1, zw_id, Int.reduceAdd, zcl_x1 hc, e1, z1, k1, h1])
    rw [zk_144_4]
    ((try simp only [zbd_conv]); simp (disch := first | assumption | omega | trivial) only [↓reduceIte, zbd_some, eq_self, Int.reduceEq, Int.reduceLT, Int.reduceLE, and_self, or_true, true_or, or_false, false_or, if_pos, if_neg, if_true, if_false, true_and, and_true, not_true_eq_false, not_false_eq_true, false_and, and_false, Option.bind_some, zq_t, zq_f, zq0, zq1, zw_id, Int.reduceAdd])
  · ((try simp only [zbd_conv]); simp (disch := first | assumption | omega | trivial) only [↓reduceIte, zbd_some, eq_self, Int.reduceEq, Int.reduceLT, Int.reduceLE, and_self, or_true, true_or, or_false, false_or, if_pos, if_neg, if_true, if_false, true_and, and_true, not_true_eq_false, not_false_eq_true, false_and, and_false, Option.bind_some, zq_t, zq_f, zq0, zq1, zw_id, Int.reduceAdd, zcl_x1 hc, e0, z0, k0, h0])
    rw [zk_144_4]
    ((try simp only [zbd_conv]); simp (disch := first | assumption | omega | trivial) only [↓reduceIte, zbd_some, eq_self, Int.reduceEq, Int.reduceLT, Int.reduceLE, and_self, or_true, true_or, or_false, false_or, if_pos, if_neg, if_true, if_false, true_and, and_true, not_true_eq_false, not_false_eq_true, false_and, and_false, Option.bind_some, zq_t, zq_f, zq0, zq1, zw_id, Int.reduceAdd, zcl_x1 hc, e1, z1, k1, h1])
    rw [zk_144_4]
    ((try simp only [zbd_conv]); simp (disch := first | assumption | omega | trivial) only [↓reduceIte, zbd_some, eq_self, Int.reduceEq, Int.reduceLT, Int.reduceLE, and_self, or_true, true_or, or_false, false_or, if_pos, if_neg, if_true, if_false, true_and, and_true, not_true_eq_false, not_false_eq_true, false_and, and_false, Option.bind_some, zq_t, zq_f, zq0, zq1, zw_id, Int.reduceAdd])
theorem zz_rule (h : zR4 S I R X M) : zz_ok (d + 11) S I R T X M 110 189 [.inl x] := by
  obtain ⟨hc, hm, hap, hall⟩ := id h
  obtain ⟨⟨hrep, hwf⟩, hset, hmo, hse4, hlay, hrz, hnum, htap⟩ := zR4_facts h
  obtain ⟨f, hf⟩ : ∃ f, R X 6 = f := ⟨_, rfl⟩
  rw [hf] at hrep
  have hF := zcl_fr hc hf
  have oo : zo_ly I I M := zo_ly_refl
  have hhis := hall.2.2.2.2.2.1.1
  rw [zr_row0] at hhis
  have im0 := (hall.2.2.2.2.2.2.1 0 (by omega) (by omega)).1
  have im1 := (hall.2.2.2.2.2.2.1 1 (by omega) (by omega)).1
  rw [zr_row_q, show X + 272 + 10 * 0 = X + 272 by omega] at im0
  rw [zr_row_q, show X + 272 + 10 * 1 = X + 282 by omega] at im1
  by_cases gx : 0 ≤ x ∧ x ≤ 13
  · rcases (show x = 0 ∨ x = 1 ∨ x = 2 ∨ x = 3 ∨ x = 4 ∨ x = 5 ∨ x = 6 ∨ x = 7 ∨ x = 8 ∨ x = 9 ∨ x = 10 ∨ x = 11 ∨ x = 12 ∨ x = 13 by omega) with g | g | g | g | g | g | g | g | g | g | g | g | g | g <;> subst g
    · refine zz_read (v := I (M + 1) 0) h ?_ ?_ oo
      · rw [zm_110]
        ((try simp only [zbd_conv]); simp (disch := first | assumption | omega | trivial) only [↓reduceIte, zbd_some, eq_self, Int.reduceEq, Int.reduceLT, Int.reduceLE, and_self, or_true, true_or, or_false, false_or, if_pos, if_neg, if_true, if_false, true_and, and_true, not_true_eq_false, not_false_eq_true, false_and, and_false, Option.bind_some, zq_t, zq_f, zq0, zq1, zw_id, zcl_x1 hc, hf, zfr_k hF, zfr_r0 hF, zfr_r1 hF, zfr_lk hF, zfr_fk hF, zcl_c3 hc, (zcl_sc hc).2.1, hrep.1])
      · rw [zm_189]
        ((try simp only [zbd_conv]); simp (disch := first | assumption | omega | trivial) only [↓reduceIte, zbd_some, eq_self, Int.reduceEq, Int.reduceLT, Int.reduceLE, and_self, or_true, true_or, or_false, false_or, if_pos, if_neg, if_true, if_false, true_and, and_true, not_true_eq_false, not_false_eq_true, false_and, and_false, Option.bind_some, zq_t, zq_f, zq0, zq1, zw_id, zmo_1 hm, zmo_r0 hm, zmo_s1 hm])
    · refine zz_read (v := zk_sm (fun l => I (M + 1) (1 + l)) (I (M + 1) 0)) h ?_ ?_ oo
      · rw [zm_110]
        ((try simp only [zbd_conv]); simp (disch := first | assumption | omega | trivial) only [↓reduceIte, zbd_some, eq_self, Int.reduceEq, Int.reduceLT, Int.reduceLE, and_self, or_true, true_or, or_false, false_or, if_pos, if_neg, if_true, if_false, true_and, and_true, not_true_eq_false, not_false_eq_true, false_and, and_false, Option.bind_some, zq_t, zq_f, zq0, zq1, zw_id, zcl_x1 hc, hf, zfr_k hF, zfr_r0 hF, zfr_r1 hF, zfr_lk hF, zfr_fk hF, zcl_c3 hc, (zcl_sc hc).2.1, zzc_total hF hrep hwf])
      · rw [zm_189]
        ((try simp only [zbd_conv]); simp (disch := first | assumption | omega | trivial) only [↓reduceIte, zbd_some, eq_self, Int.reduceEq, Int.reduceLT, Int.reduceLE, and_self, or_true, true_or, or_false, false_or, if_pos, if_neg, if_true, if_false, true_and, and_true, not_true_eq_false, not_false_eq_true, false_and, and_false, Option.bind_some, zq_t, zq_f, zq0, zq1, zw_id, zmo_1 hm, zmo_r0 hm, zmo_s1 hm, zy_signs hm hwf])
    · obtain ⟨J, e1, e2⟩ := zzm_screenRows (d := d + 2) (T := T) hm hmo hwf hrz oo
      refine zz_read h (v := zk_sm (zt_vis (I (M + 1)) (zr_rz I X)) (I (M + 1) 0)) ?_ (K := J) ?_ e2
      · rw [zm_110]
        ((try simp only [zbd_conv]); simp (disch := first | assumption | omega | trivial) only [↓reduceIte, zbd_some, eq_self, Int.reduceEq, Int.reduceLT, Int.reduceLE, and_self, or_true, true_or, or_false, false_or, if_pos, if_neg, if_true, if_false, true_and, and_true, not_true_eq_false, not_false_eq_true, false_and, and_false, Option.bind_some, zq_t, zq_f, zq0, zq1, zw_id, zcl_x1 hc, hf, zfr_k hF, zfr_r0 hF, zfr_r1 hF, zfr_lk hF, zfr_fk hF, zcl_c3 hc, (zcl_sc hc).2.1, zzc_rowCount hc hF hrep hwf hrz])
      · rw [zm_189]
        ((try simp only [zbd_conv]); simp (disch := first | assumption | omega | trivial) only [↓reduceIte, zbd_some, eq_self, Int.reduceEq, Int.reduceLT, Int.reduceLE, and_self, or_true, true_or, or_false, false_or, if_pos, if_neg, if_true, if_false, true_and, and_true, not_true_eq_false, not_false_eq_true, false_and, and_false, Option.bind_some, zq_t, zq_f, zq0, zq1, zw_id, zmo_1 hm, zmo_r0 hm, zmo_s1 hm, e1])
    · refine zz_read (v := zk_sm (fun l => zq (zt_hid (I (M + 1)) l)) (I (M + 1) 0)) h ?_ ?_ oo
      · rw [zm_110]
        ((try simp only [zbd_conv]); simp (disch := first | assumption | omega | trivial) only [↓reduceIte, zbd_some, eq_self, Int.reduceEq, Int.reduceLT, Int.reduceLE, and_self, or_true, true_or, or_false, false_or, if_pos, if_neg, if_true, if_false, true_and, and_true, not_true_eq_false, not_false_eq_true, false_and, and_false, Option.bind_some, zq_t, zq_f, zq0, zq1, zw_id, zcl_x1 hc, hf, zfr_k hF, zfr_r0 hF, zfr_r1 hF, zfr_lk hF, zfr_fk hF, zcl_c3 hc, (zcl_sc hc).2.1, zzc_hiddenLines hF hrep hwf])
      · rw [zm_189]
        ((try simp only [zbd_conv]); simp (disch := first | assumption | omega | trivial) only [↓reduceIte, zbd_some, eq_self, Int.reduceEq, Int.reduceLT, Int.reduceLE, and_self, or_true, true_or, or_false, false_or, if_pos, if_neg, if_true, if_false, true_and, and_true, not_true_eq_false, not_false_eq_true, false_and, and_false, Option.bind_some, zq_t, zq_f, zq0, zq1, zw_id, zmo_1 hm, zmo_r0 hm, zmo_s1 hm, zy_hiddenLines hm hwf])
    · refine zz_read (v := I (M + 1) 493) h ?_ ?_ oo
      · rw [zm_110]
        ((try simp only [zbd_conv]); simp (disch := first | assumption | omega | trivial) only [↓reduceIte, zbd_some, eq_self, Int.reduceEq, Int.reduceLT, Int.reduceLE, and_self, or_true, true_or, or_false, false_or, if_pos, if_neg, if_true, if_false, true_and, and_true, not_true_eq_false, not_false_eq_true, false_and, and_false, Option.bind_some, zq_t, zq_f, zq0, zq1, zw_id, zcl_x1 hc, hf, zfr_k hF, zfr_r0 hF, zfr_r1 hF, zfr_lk hF, zfr_fk hF, zcl_c3 hc, (zcl_sc hc).2.1, hrep.2.2.2.1])
      · rw [zm_189]
        ((try simp only [zbd_conv]); simp (disch := first | assumption | omega | trivial) only [↓reduceIte, zbd_some, eq_self, Int.reduceEq, Int.reduceLT, Int.reduceLE, and_self, or_true, true_or, or_false, false_or, if_pos, if_neg, if_true, if_false, true_and, and_true, not_true_eq_false, not_false_eq_true, false_and, and_false, Option.bind_some, zq_t, zq_f, zq0, zq1, zw_id, zmo_1 hm, zmo_r0 hm, zmo_s1 hm])
    · refine zz_read (v := zk_sm (fun k => zq (I (M + 1) (496 + 3 * k) = 1)) (I (M + 1) 493)) h ?_ ?_ oo
      · rw [zm_110]
        ((try simp only [zbd_conv]); simp (disch := first | assumption | omega | trivial) only [↓reduceIte, zbd_some, eq_self, Int.reduceEq, Int.reduceLT, Int.reduceLE, and_self, or_true, true_or, or_false, false_or, if_pos, if_neg, if_true, if_false, true_and, and_true, not_true_eq_false, not_false_eq_true, false_and, and_false, Option.bind_some, zq_t, zq_f, zq0, zq1, zw_id, zcl_x1 hc, hf, zfr_k hF, zfr_r0 hF, zfr_r1 hF, zfr_lk hF, zfr_fk hF, zcl_c3 hc, (zcl_sc hc).2.1, zzc_shutCount hF hrep hwf])
      · rw [zm_189]
        ((try simp only [zbd_conv]); simp (disch := first | assumption | omega | trivial) only [↓reduceIte, zbd_some, eq_self, Int.reduceEq, Int.reduceLT, Int.reduceLE, and_self, or_true, true_or, or_false, false_or, if_pos, if_neg, if_true, if_false, true_and, and_true, not_true_eq_false, not_false_eq_true, false_and, and_false, Option.bind_some, zq_t, zq_f, zq0, zq1, zw_id, zmo_1 hm, zmo_r0 hm, zmo_s1 hm, zy_shutFolds hm hwf])
    · refine zz_read (v := I M 6) h ?_ ?_ oo
      · rw [zm_110]
        ((try simp only [zbd_conv]); simp (disch := first | assumption | omega | trivial) only [↓reduceIte, zbd_some, eq_self, Int.reduceEq, Int.reduceLT, Int.reduceLE, and_self, or_true, true_or, or_false, false_or, if_pos, if_neg, if_true, if_false, true_and, and_true, not_true_eq_false, not_false_eq_true, false_and, and_false, Option.bind_some, zq_t, zq_f, zq0, zq1, zw_id, zcl_x1 hc, hf, zfr_k hF, zfr_r0 hF, zfr_r1 hF, zfr_lk hF, zfr_fk hF, zcl_c3 hc, (zcl_sc hc).2.1, zcl_c1 hc, (zcl_se hc).2, hset.1])
      · rw [zm_189]
        ((try simp only [zbd_conv]); simp (disch := first | assumption | omega | trivial) only [↓reduceIte, zbd_some, eq_self, Int.reduceEq, Int.reduceLT, Int.reduceLE, and_self, or_true, true_or, or_false, false_or, if_pos, if_neg, if_true, if_false, true_and, and_true, not_true_eq_false, not_false_eq_true, false_and, and_false, Option.bind_some, zq_t, zq_f, zq0, zq1, zw_id, zmo_1 hm, zmo_r0 hm, zmo_s1 hm])
    · refine zz_read (v := I M 7) h ?_ ?_ oo
      · rw [zm_110]
        ((try simp only [zbd_conv]); simp (disch := first | assumption | omega | trivial) only [↓reduceIte, zbd_some, eq_self, Int.reduceEq, Int.reduceLT, Int.reduceLE, and_self, or_true, true_or, or_false, false_or, if_pos, if_neg, if_true, if_false, true_and, and_true, not_true_eq_false, not_false_eq_true, false_and, and_false, Option.bind_some, zq_t, zq_f, zq0, zq1, zw_id, zcl_x1 hc, hf, zfr_k hF, zfr_r0 hF, zfr_r1 hF, zfr_lk hF, zfr_fk hF, zcl_c3 hc, (zcl_sc hc).2.1, zcl_c1 hc, (zcl_se hc).2, hset.2.1])
      · rw [zm_189]
        ((try simp only [zbd_conv]); simp (disch := first | assumption | omega | trivial) only [↓reduceIte, zbd_some, eq_self, Int.reduceEq, Int.reduceLT, Int.reduceLE, and_self, or_true, true_or, or_false, false_or, if_pos, if_neg, if_true, if_false, true_and, and_true, not_true_eq_false, not_false_eq_true, false_and, and_false, Option.bind_some, zq_t, zq_f, zq0, zq1, zw_id, zmo_1 hm, zmo_r0 hm, zmo_s1 hm])
    · refine zz_read (v := I M 8) h ?_ ?_ oo
      · rw [zm_110]
        ((try simp only [zbd_conv]); simp (disch := first | assumption | omega | trivial) only [↓reduceIte, zbd_some, eq_self, Int.reduceEq, Int.reduceLT, Int.reduceLE, and_self, or_true, true_or, or_false, false_or, if_pos, if_neg, if_true, if_false, true_and, and_true, not_true_eq_false, not_false_eq_true, false_and, and_false, Option.bind_some, zq_t, zq_f, zq0, zq1, zw_id, zcl_x1 hc, hf, zfr_k hF, zfr_r0 hF, zfr_r1 hF, zfr_lk hF, zfr_fk hF, zcl_c3 hc, (zcl_sc hc).2.1, zcl_c1 hc, (zcl_se hc).2, hset.2.2.1])
      · rw [zm_189]
        ((try simp only [zbd_conv]); simp (disch := first | assumption | omega | trivial) only [↓reduceIte, zbd_some, eq_self, Int.reduceEq, Int.reduceLT, Int.reduceLE, and_self, or_true, true_or, or_false, false_or, if_pos, if_neg, if_true, if_false, true_and, and_true, not_true_eq_false, not_false_eq_true, false_and, and_false, Option.bind_some, zq_t, zq_f, zq0, zq1, zw_id, zmo_1 hm, zmo_r0 hm, zmo_s1 hm])
    · refine zz_read (v := I M 9) h ?_ ?_ oo
      · rw [zm_110]
        ((try simp only [zbd_conv]); simp (disch := first | assumption | omega | trivial) only [↓reduceIte, zbd_some, eq_self, Int.reduceEq, Int.reduceLT, Int.reduceLE, and_self, or_true, true_or, or_false, false_or, if_pos, if_neg, if_true, if_false, true_and, and_true, not_true_eq_false, not_false_eq_true, false_and, and_false, Option.bind_some, zq_t, zq_f, zq0, zq1, zw_id, zcl_x1 hc, hf, zfr_k hF, zfr_r0 hF, zfr_r1 hF, zfr_lk hF, zfr_fk hF, zcl_c3 hc, (zcl_sc hc).2.1, zcl_c1 hc, (zcl_se hc).2, hset.2.2.2])
      · rw [zm_189]
        ((try simp only [zbd_conv]); simp (disch := first | assumption | omega | trivial) only [↓reduceIte, zbd_some, eq_self, Int.reduceEq, Int.reduceLT, Int.reduceLE, and_self, or_true, true_or, or_false, false_or, if_pos, if_neg, if_true, if_false, true_and, and_true, not_true_eq_false, not_false_eq_true, false_and, and_false, Option.bind_some, zq_t, zq_f, zq0, zq1, zw_id, zmo_1 hm, zmo_r0 hm, zmo_s1 hm])
    · refine zz_read (v := I M 4) h ?_ ?_ oo
      · rw [zm_110]
        ((try simp only [zbd_conv]); simp (disch := first | assumption | omega | trivial) only [↓reduceIte, zbd_some, eq_self, Int.reduceEq, Int.reduceLT, Int.reduceLE, and_self, or_true, true_or, or_false, false_or, if_pos, if_neg, if_true, if_false, true_and, and_true, not_true_eq_false, not_false_eq_true, false_and, and_false, Option.bind_some, zq_t, zq_f, zq0, zq1, zw_id, zcl_x1 hc, hf, zfr_k hF, zfr_r0 hF, zfr_r1 hF, zfr_lk hF, zfr_fk hF, zcl_c3 hc, (zcl_sc hc).2.1, zcl_c2 hc, (zcl_hi hc).2.1, hhis.1])
      · rw [zm_189]
        ((try simp only [zbd_conv]); simp (disch := first | assumption | omega | trivial) only [↓reduceIte, zbd_some, eq_self, Int.reduceEq, Int.reduceLT, Int.reduceLE, and_self, or_true, true_or, or_false, false_or, if_pos, if_neg, if_true, if_false, true_and, and_true, not_true_eq_false, not_false_eq_true, false_and, and_false, Option.bind_some, zq_t, zq_f, zq0, zq1, zw_id, zmo_1 hm, zmo_r0 hm, zmo_s1 hm])
    · refine zz_read (v := I M 5) h ?_ ?_ oo
      · rw [zm_110]
        ((try simp only [zbd_conv]); simp (disch := first | assumption | omega | trivial) only [↓reduceIte, zbd_some, eq_self, Int.reduceEq, Int.reduceLT, Int.reduceLE, and_self, or_true, true_or, or_false, false_or, if_pos, if_neg, if_true, if_false, true_and, and_true, not_true_eq_false, not_false_eq_true, false_and, and_false, Option.bind_some, zq_t, zq_f, zq0, zq1, zw_id, zcl_x1 hc, hf, zfr_k hF, zfr_r0 hF, zfr_r1 hF, zfr_lk hF, zfr_fk hF, zcl_c3 hc, (zcl_sc hc).2.1, zcl_c2 hc, (zcl_hi hc).2.1, hhis.2])
      · rw [zm_189]
        ((try simp only [zbd_conv]); simp (disch := first | assumption | omega | trivial) only [↓reduceIte, zbd_some, eq_self, Int.reduceEq, Int.reduceLT, Int.reduceLE, and_self, or_true, true_or, or_false, false_or, if_pos, if_neg, if_true, if_false, true_and, and_true, not_true_eq_false, not_false_eq_true, false_and, and_false, Option.bind_some, zq_t, zq_f, zq0, zq1, zw_id, zmo_1 hm, zmo_r0 hm, zmo_s1 hm])
    · refine zz_read (v := I M 12) h ?_ ?_ oo
      · rw [zm_110]
        ((try simp only [zbd_conv]); simp (disch := first | assumption | omega | trivial) only [↓reduceIte, zbd_some, eq_self, Int.reduceEq, Int.reduceLT, Int.reduceLE, and_self, or_true, true_or, or_false, false_or, if_pos, if_neg, if_true, if_false, true_and, and_true, not_true_eq_false, not_false_eq_true, false_and, and_false, Option.bind_some, zq_t, zq_f, zq0, zq1, zw_id, zcl_x1 hc, hf, zfr_k hF, zfr_r0 hF, zfr_r1 hF, zfr_lk hF, zfr_fk hF, zcl_c3 hc, (zcl_sc hc).2.1, zcl_c0 hc, (zcl_ta hc).2.1, htap.1])
      · rw [zm_189]
        ((try simp only [zbd_conv]); simp (disch := first | assumption | omega | trivial) only [↓reduceIte, zbd_some, eq_self, Int.reduceEq, Int.reduceLT, Int.reduceLE, and_self, or_true, true_or, or_false, false_or, if_pos, if_neg, if_true, if_false, true_and, and_true, not_true_eq_false, not_false_eq_true, false_and, and_false, Option.bind_some, zq_t, zq_f, zq0, zq1, zw_id, zmo_1 hm, zmo_r0 hm, zmo_s1 hm])
    · refine zz_read (v := I (M + 12) 0 + I (M + 12) 1) h ?_ ?_ oo
      · rw [zm_110]
        ((try simp only [zbd_conv]); simp (disch := first | assumption | omega | trivial) only [↓reduceIte, zbd_some, eq_self, Int.reduceEq, Int.reduceLT, Int.reduceLE, and_self, or_true, true_or, or_false, false_or, if_pos, if_neg, if_true, if_false, true_and, and_true, not_true_eq_false, not_false_eq_true, false_and, and_false, Option.bind_some, zq_t, zq_f, zq0, zq1, zw_id, zcl_x1 hc, hf, zfr_k hF, zfr_r0 hF, zfr_r1 hF, zfr_lk hF, zfr_fk hF, zcl_c3 hc, (zcl_sc hc).2.1, zx_imageCount hc im0.1 im1.1 im0.2 im1.2])
      · rw [zm_189]
        rcases im0.2 with q | q <;> rcases im1.2 with q' | q' <;> ((try simp only [zbd_conv]); simp (disch := first | assumption | omega | trivial) only [↓reduceIte, zbd_some, eq_self, Int.reduceEq, Int.reduceLT, Int.reduceLE, and_self, or_true, true_or, or_false, false_or, if_pos, if_neg, if_true, if_false, true_and, and_true, not_true_eq_false, not_false_eq_true, false_and, and_false, Option.bind_some, zq_t, zq_f, zq0, zq1, zw_id, zmo_1 hm, zmo_r0 hm, zmo_s1 hm, zmo_r24 hm, zmo_s12 hm, q, q']) <;> rfl
  · refine zz_read (v := -1) h ?_ ?_ oo
    · rw [zm_110]
      ((try simp only [zbd_conv]); simp (disch := first | assumption | omega | trivial) only [↓reduceIte, zbd_some, eq_self, Int.reduceEq, Int.reduceLT, Int.reduceLE, and_self, or_true, true_or, or_false, false_or, if_pos, if_neg, if_true, if_false, true_and, and_true, not_true_eq_false, not_false_eq_true, false_and, and_false, Option.bind_some, zq_t, zq_f, zq0, zq1, zw_id])
    · rw [zm_189]
      ((try simp only [zbd_conv]); simp (disch := first | assumption | omega | trivial) only [↓reduceIte, zbd_some, eq_self, Int.reduceEq, Int.reduceLT, Int.reduceLE, and_self, or_true, true_or, or_false, false_or, if_pos, if_neg, if_true, if_false, true_and, and_true, not_true_eq_false, not_false_eq_true, false_and, and_false, Option.bind_some, zq_t, zq_f, zq0, zq1, zw_id])
/-- what both know of a line -/
theorem zz_laid (hlay : ∀ l, 0 ≤ l → l < I (M + 1) 0 → zl_laid (I (M + 1)) (I M 6) (I M 7) (I M 8) (I M 9) I (X + 135) l) (hl : 0 ≤ l ∧ l < I (M + 1) 0) : zl_pic (I (M + 1) (1 + l)) (I M 6) (I M 7) (I M 8) (zl_ind (I (M + 1) (1 + l)) (I M 6) (I M 7) (I M 8) (I M 9) (zt_sg (I (M + 1)) l)) (zt_sg (I (M + 1)) l) I (X + 135 + 11 + 9 * l) := hlay l hl.1 hl.2
theorem zz_ind (hmo : zr_mo I M) : 0 ≤ zl_ind n (I M 6) (I M 7) (I M 8) (I M 9) (zt_sg (I (M + 1)) l) ∧ zl_ind n (I M 6) (I M 7) (I M 8) (I M 9) (zt_sg (I (M + 1)) l) ≤ I M 6 / 2 := zl_ind_ir hmo.1 hmo.2.2.2.1 (zl_lead_nn hmo.2.1.1 41 0 0 (by omega))
theorem zz_line (h : zR4 S I R X M) : zz_ok (d + 11) S I R T X M 112 193 [.inl l, .inl x] := by
  obtain ⟨hc, hm, hap, hall⟩ := id h
  obtain ⟨⟨hrep, hwf⟩, -, hmo, -, hlay, hrz, -, -⟩ := zR4_facts h
  obtain ⟨f, hf⟩ : ∃ f, R X 6 = f := ⟨_, rfl⟩
  rw [hf] at hrep
  have hF := zcl_fr hc hf
  have h0 := hwf.1
  have oo : zo_ly I I M := zo_ly_refl
  by_cases g1 : 0 ≤ l ∧ l < I (M + 1) 0
  · have hn := hwf.2.1 l g1.1 g1.2
    have hll := zs_cl_ll hc (show 0 ≤ l ∧ l < 12 by omega)
    obtain ⟨x', hx'⟩ : ∃ x', x' = X + 135 + 11 + 9 * l := ⟨_, rfl⟩
    have ell : ∀ d, zG (d + 1) 78 [.inr (.inr (X + 135)), .inl l] (S, I, R, T) = some (x', (S, I, R, T)) := fun d => by
      rw [hx']; exact zx_laidLine (zcl_sc hc) (by omega)
    have pic := zz_laid hlay g1
    rw [← hx'] at pic hll
    have hk4 := hll.2.1
    have has := fun d => zzc_has (d := d) (I := I) (T := T) (l := l) hF hrep
    by_cases gx : 0 ≤ x ∧ x ≤ 6
    · obtain ⟨J1, a1, a2⟩ := zzm_firstRow (d := d + 3) (T := T) hm hmo hwf hrz oo (l := l) (by omega)
      obtain ⟨J, b1, b2, b3⟩ := zzm_lays (d := d + 5) (T := T) hm hmo hwf a2 g1
      obtain ⟨u1, u2, u3, u4⟩ := zl_both hn.1 pic b3
      have isl := fun d => zzm_isLine (d := d) (T := T) (l := l) hm hwf oo
      have hP : J (M + 1) = I (M + 1) := zo_P b2
      rcases (show x = 0 ∨ x = 1 ∨ x = 2 ∨ x = 3 ∨ x = 4 ∨ x = 5 ∨ x = 6 by omega) with g | g | g | g | g | g | g <;> subst g
      · refine zz_read (v := I (M + 1) (1 + l)) h ?_ (K := J) ?_ b2
        · rw [zm_112]
          ((try simp only [zbd_conv]); simp (disch := first | assumption | omega | trivial) only [↓reduceIte, zbd_some, eq_self, Int.reduceEq, Int.reduceLT, Int.reduceLE, and_self, or_true, true_or, or_false, false_or, if_pos, if_neg, if_true, if_false, true_and, and_true, not_true_eq_false, not_false_eq_true, false_and, and_false, Option.bind_some, zq_t, zq_f, zq0, zq1, zw_id, zcl_x1 hc, hf, zfr_k hF, zfr_r0 hF, zfr_r1 hF, zfr_lk hF, zfr_fk hF, zcl_c3 hc, (zcl_sc hc).2.1, has, ell, zzc_length hF hrep hwf])
        · rw [zm_193]
          ((try simp only [zbd_conv]); simp (disch := first | assumption | omega | trivial) only [↓reduceIte, zbd_some, eq_self, Int.reduceEq, Int.reduceLT, Int.reduceLE, and_self, or_true, true_or, or_false, false_or, if_pos, if_neg, if_true, if_false, true_and, and_true, not_true_eq_false, not_false_eq_true, false_and, and_false, Option.bind_some, zq_t, zq_f, zq0, zq1, zw_id, zmo_1 hm, zmo_r0 hm, zmo_s1 hm, isl, zy_in, a1, b1, zzm_len hm hwf b2])
      · refine zz_read (v := I x' 1) h ?_ (K := J) ?_ b2
        · rw [zm_112]
          ((try simp only [zbd_conv]); simp (disch := first | assumption | omega | trivial) only [↓reduceIte, zbd_some, eq_self, Int.reduceEq, Int.reduceLT, Int.reduceLE, and_self, or_true, true_or, or_false, false_or, if_pos, if_neg, if_true, if_false, true_and, and_true, not_true_eq_false, not_false_eq_true, false_and, and_false, Option.bind_some, zq_t, zq_f, zq0, zq1, zw_id, zcl_x1 hc, hf, zfr_k hF, zfr_r0 hF, zfr_r1 hF, zfr_lk hF, zfr_fk hF, zcl_c3 hc, (zcl_sc hc).2.1, has, ell, hk4])
        · rw [zm_193]
          ((try simp only [zbd_conv]); simp (disch := first | assumption | omega | trivial) only [↓reduceIte, zbd_some, eq_self, Int.reduceEq, Int.reduceLT, Int.reduceLE, and_self, or_true, true_or, or_false, false_or, if_pos, if_neg, if_true, if_false, true_and, and_true, not_true_eq_false, not_false_eq_true, false_and, and_false, Option.bind_some, zq_t, zq_f, zq0, zq1, zw_id, zmo_1 hm, zmo_r0 hm, zmo_s1 hm, isl, zy_in, a1, b1, u1])
      · by_cases gh : zt_hid (I (M + 1)) l
        · refine zz_read (v := -4) h ?_ (K := J) ?_ b2
          · rw [zm_112]
            ((try simp only [zbd_conv]); simp (disch := first | assumption | omega | trivial) only [↓reduceIte, zbd_some, eq_self, Int.reduceEq, Int.reduceLT, Int.reduceLE, and_self, or_true, true_or, or_false, false_or, if_pos, if_neg, if_true, if_false, true_and, and_true, not_true_eq_false, not_false_eq_true, false_and, and_false, Option.bind_some, zq_t, zq_f, zq0, zq1, zw_id, zcl_x1 hc, hf, zfr_k hF, zfr_r0 hF, zfr_r1 hF, zfr_lk hF, zfr_fk hF, zcl_c3 hc, (zcl_sc hc).2.1, has, ell, zzc_hides hF hrep hwf])
          · rw [zm_193]
            ((try simp only [zbd_conv]); simp (disch := first | assumption | omega | trivial) only [↓reduceIte, zbd_some, eq_self, Int.reduceEq, Int.reduceLT, Int.reduceLE, and_self, or_true, true_or, or_false, false_or, if_pos, if_neg, if_true, if_false, true_and, and_true, not_true_eq_false, not_false_eq_true, false_and, and_false, Option.bind_some, zq_t, zq_f, zq0, zq1, zw_id, zmo_1 hm, zmo_r0 hm, zmo_s1 hm, isl, zy_in, a1, b1, zzm_isHidden hm hwf b2])
        · refine zz_read (v := zk_sm (zt_vis (I (M + 1)) (zr_rz I X)) l) h ?_ (K := J) ?_ b2
          · rw [zm_112]
            ((try simp only [zbd_conv]); simp (disch := first | assumption | omega | trivial) only [↓reduceIte, zbd_some, eq_self, Int.reduceEq, Int.reduceLT, Int.reduceLE, and_self, or_true, true_or, or_false, false_or, if_pos, if_neg, if_true, if_false, true_and, and_true, not_true_eq_false, not_false_eq_true, false_and, and_false, Option.bind_some, zq_t, zq_f, zq0, zq1, zw_id, zcl_x1 hc, hf, zfr_k hF, zfr_r0 hF, zfr_r1 hF, zfr_lk hF, zfr_fk hF, zcl_c3 hc, (zcl_sc hc).2.1, has, ell, zzc_hides hF hrep hwf, zzc_firstRowOf hc hF hrep hwf hrz])
          · rw [zm_193]
            ((try simp only [zbd_conv]); simp (disch := first | assumption | omega | trivial) only [↓reduceIte, zbd_some, eq_self, Int.reduceEq, Int.reduceLT, Int.reduceLE, and_self, or_true, true_or, or_false, false_or, if_pos, if_neg, if_true, if_false, true_and, and_true, not_true_eq_false, not_false_eq_true, false_and, and_false, Option.bind_some, zq_t, zq_f, zq0, zq1, zw_id, zmo_1 hm, zmo_r0 hm, zmo_s1 hm, isl, zy_in, a1, b1, zzm_isHidden hm hwf b2])
      · refine zz_read (v := I x' 2) h ?_ (K := J) ?_ b2
        · rw [zm_112]
          ((try simp only [zbd_conv]); simp (disch := first | assumption | omega | trivial) only [↓reduceIte, zbd_some, eq_self, Int.reduceEq, Int.reduceLT, Int.reduceLE, and_self, or_true, true_or, or_false, false_or, if_pos, if_neg, if_true, if_false, true_and, and_true, not_true_eq_false, not_false_eq_true, false_and, and_false, Option.bind_some, zq_t, zq_f, zq0, zq1, zw_id, zcl_x1 hc, hf, zfr_k hF, zfr_r0 hF, zfr_r1 hF, zfr_lk hF, zfr_fk hF, zcl_c3 hc, (zcl_sc hc).2.1, has, ell, hk4])
        · have e : J M 23 = I x' 2 := b3.2.1.trans pic.2.1.symm
          rw [zm_193]
          ((try simp only [zbd_conv]); simp (disch := first | assumption | omega | trivial) only [↓reduceIte, zbd_some, eq_self, Int.reduceEq, Int.reduceLT, Int.reduceLE, and_self, or_true, true_or, or_false, false_or, if_pos, if_neg, if_true, if_false, true_and, and_true, not_true_eq_false, not_false_eq_true, false_and, and_false, Option.bind_some, zq_t, zq_f, zq0, zq1, zw_id, zmo_1 hm, zmo_r0 hm, zmo_s1 hm, isl, zy_in, a1, b1, e])
      · have e5 : ∀ i, 0 ≤ i → i ≤ I (M + 1) (1 + l) → I (x' + 5) i = zq (zl_isstop (I (M + 1) (1 + l)) (zt_sg (I (M + 1)) l) (I (x' + 4)) i) := pic.2.2.2.1
        have sc := zx_stopCount (d := d + 7) (I := I) (T := T) hll (by rw [pic.1]; exact hn) (fun j j1 j2 => by
          rw [pic.1] at j2
          rw [e5 j j1 (by omega)]
          have := zq01 (P := zl_isstop (I (M + 1) (1 + l)) (zt_sg (I (M + 1)) l) (I (x' + 4)) j)
          omega)
        rw [pic.1] at sc
        have ct := zy_counted (d := d + 6) (I := J) (T := T) (l := l) (x := 4) (n := I (M + 1) (1 + l)) hm (by omega) (by rw [hP]) hn (q := fun i => zl_isstop (I (M + 1) (1 + l)) (zt_sg (I (M + 1)) l) (J (M + 10)) i) (fun i i1 i2 => by rw [if_pos rfl, hP])
        have ev : zk_sm (fun i => zq (zl_isstop (I (M + 1) (1 + l)) (zt_sg (I (M + 1)) l) (J (M + 10)) i)) (I (M + 1) (1 + l) + 1) = zk_sm (I (x' + 5)) (I (M + 1) (1 + l) + 1) := zk_sm_congr (fun i i1 i2 => by
          rw [e5 i i1 (by omega)]
          by_cases gi : i = I (M + 1) (1 + l)
          · exact zq_congr ⟨fun _ => Or.inr (Or.inl gi), fun _ => Or.inr (Or.inl gi)⟩
          · exact zq_congr (zl_isstop_congr (u4 i i1 (by omega)).2))
        rw [ev] at ct
        refine zz_read (v := zk_sm (I (x' + 5)) (I (M + 1) (1 + l) + 1)) h ?_ (K := J) ?_ b2
        · rw [zm_112]
          ((try simp only [zbd_conv]); simp (disch := first | assumption | omega | trivial) only [↓reduceIte, zbd_some, eq_self, Int.reduceEq, Int.reduceLT, Int.reduceLE, and_self, or_true, true_or, or_false, false_or, if_pos, if_neg, if_true, if_false, true_and, and_true, not_true_eq_false, not_false_eq_true, false_and, and_false, Option.bind_some, zq_t, zq_f, zq0, zq1, zw_id, zcl_x1 hc, hf, zfr_k hF, zfr_r0 hF, zfr_r1 hF, zfr_lk hF, zfr_fk hF, zcl_c3 hc, (zcl_sc hc).2.1, has, ell, hk4, sc])
        · rw [zm_193]
          ((try simp only [zbd_conv]); simp (disch := first | assumption | omega | trivial) only [↓reduceIte, zbd_some, eq_self, Int.reduceEq, Int.reduceLT, Int.reduceLE, and_self, or_true, true_or, or_false, false_or, if_pos, if_neg, if_true, if_false, true_and, and_true, not_true_eq_false, not_false_eq_true, false_and, and_false, Option.bind_some, zq_t, zq_f, zq0, zq1, zw_id, zmo_1 hm, zmo_r0 hm, zmo_s1 hm, isl, zy_in, a1, b1, ct])
      · have e5 : ∀ i, 0 ≤ i → i ≤ I (M + 1) (1 + l) → I (x' + 6) i = zq (zl_brk (I (M + 1) (1 + l)) (zt_sg (I (M + 1)) l) i) := pic.2.2.2.2.1
        have sc := zx_breakCount (d := d + 7) (I := I) (T := T) hll (by rw [pic.1]; exact hn) (fun j j1 j2 => by
          rw [pic.1] at j2
          rw [e5 j j1 (by omega)]
          have := zq01 (P := zl_brk (I (M + 1) (1 + l)) (zt_sg (I (M + 1)) l) j)
          omega)
        rw [pic.1] at sc
        have ct := zy_counted (d := d + 6) (I := J) (T := T) (l := l) (x := 5) (n := I (M + 1) (1 + l)) hm (by omega) (by rw [hP]) hn (q := fun i => zl_brk (I (M + 1) (1 + l)) (zt_sg (I (M + 1)) l) i) (fun i i1 i2 => by rw [if_neg (by omega), if_pos rfl, hP])
        have ev : zk_sm (fun i => zq (zl_brk (I (M + 1) (1 + l)) (zt_sg (I (M + 1)) l) i)) (I (M + 1) (1 + l) + 1) = zk_sm (I (x' + 6)) (I (M + 1) (1 + l) + 1) := zk_sm_congr (fun i i1 i2 => (e5 i i1 (by omega)).symm)
        rw [ev] at ct
        refine zz_read (v := zk_sm (I (x' + 6)) (I (M + 1) (1 + l) + 1)) h ?_ (K := J) ?_ b2
        · rw [zm_112]
          ((try simp only [zbd_conv]); simp (disch := first | assumption | omega | trivial) only [↓reduceIte, zbd_some, eq_self, Int.reduceEq, Int.reduceLT, Int.reduceLE, and_self, or_true, true_or, or_false, false_or, if_pos, if_neg, if_true, if_false, true_and, and_true, not_true_eq_false, not_false_eq_true, false_and, and_false, Option.bind_some, zq_t, zq_f, zq0, zq1, zw_id, zcl_x1 hc, hf, zfr_k hF, zfr_r0 hF, zfr_r1 hF, zfr_lk hF, zfr_fk hF, zcl_c3 hc, (zcl_sc hc).2.1, has, ell, hk4, sc])
        · rw [zm_193]
          ((try simp only [zbd_conv]); simp (disch := first | assumption | omega | trivial) only [↓reduceIte, zbd_some, eq_self, Int.reduceEq, Int.reduceLT, Int.reduceLE, and_self, or_true, true_or, or_false, false_or, if_pos, if_neg, if_true, if_false, true_and, and_true, not_true_eq_false, not_false_eq_true, false_and, and_false, Option.bind_some, zq_t, zq_f, zq0, zq1, zw_id, zmo_1 hm, zmo_r0 hm, zmo_s1 hm, isl, zy_in, a1, b1, ct])
      · have hcol := zl_cols pic.2.2.1 hn hmo.2.1 (by have := zz_ind (n := I (M + 1) (1 + l)) (l := l) hmo; have := hmo.1; omega)
        have e5 : ∀ i, 0 ≤ i → i < I (M + 1) (1 + l) → I (x' + 4) i = 0 ∨ I (x' + 4) i = 1 := fun i i1 i2 => (hcol.1 i i1 i2).2.2.1
        have sc := zx_hangCount (d := d + 7) (I := I) (T := T) hll (by rw [pic.1]; exact hn) (fun j j1 j2 => by
          rw [pic.1] at j2
          have := e5 j j1 j2
          omega)
        rw [pic.1] at sc
        have ct := zy_counted (d := d + 6) (I := J) (T := T) (l := l) (x := 6) (n := I (M + 1) (1 + l)) hm (by omega) (by rw [hP]) hn (q := fun i => i < I (M + 1) (1 + l) ∧ ¬ J (M + 10) i = 0) (fun i i1 i2 => by rw [if_neg (by omega), if_neg (by omega)])
        have ev : zk_sm (fun i => zq (i < I (M + 1) (1 + l) ∧ ¬ J (M + 10) i = 0)) (I (M + 1) (1 + l) + 1) = zk_sm (I (x' + 4)) (I (M + 1) (1 + l)) := by
          rw [zk_smS hn.1, zq_f (show ¬ (I (M + 1) (1 + l) < I (M + 1) (1 + l) ∧ _) from fun z => by omega), Int.add_zero]
          refine zk_sm_congr (fun i i1 i2 => ?_)
          have q := e5 i i1 i2
          have q2 := (u4 i i1 i2).2
          by_cases gz : I (x' + 4) i = 0
          · rw [zq_f (fun z => z.2 (q2.trans gz)), gz]
          · rw [zq_t ⟨i2, by rw [q2]; exact gz⟩]
            omega
        rw [ev] at ct
        refine zz_read (v := zk_sm (I (x' + 4)) (I (M + 1) (1 + l))) h ?_ (K := J) ?_ b2
        · rw [zm_112]
          ((try simp only [zbd_conv]); simp (disch := first | assumption | omega | trivial) only [↓reduceIte, zbd_some, eq_self, Int.reduceEq, Int.reduceLT, Int.reduceLE, and_self, or_true, true_or, or_false, false_or, if_pos, if_neg, if_true, if_false, true_and, and_true, not_true_eq_false, not_false_eq_true, false_and, and_false, Option.bind_some, zq_t, zq_f, zq0, zq1, zw_id, zcl_x1 hc, hf, zfr_k hF, zfr_r0 hF, zfr_r1 hF, zfr_lk hF, zfr_fk hF, zcl_c3 hc, (zcl_sc hc).2.1, has, ell, hk4, sc])
        · rw [zm_193]
          ((try simp only [zbd_conv]); simp (disch := first | assumption | omega | trivial) only [↓reduceIte, zbd_some, eq_self, Int.reduceEq, Int.reduceLT, Int.reduceLE, and_self, or_true, true_or, or_false, false_or, if_pos, if_neg, if_true, if_false, true_and, and_true, not_true_eq_false, not_false_eq_true, false_and, and_false, Option.bind_some, zq_t, zq_f, zq0, zq1, zw_id, zmo_1 hm, zmo_r0 hm, zmo_s1 hm, isl, zy_in, a1, b1, ct])
    · refine zz_read (v := -1) h ?_ ?_ oo
      · rw [zm_112]
        ((try simp only [zbd_conv]); simp (disch := first | assumption | omega | trivial) only [↓reduceIte, zbd_some, eq_self, Int.reduceEq, Int.reduceLT, Int.reduceLE, and_self, or_true, true_or, or_false, false_or, if_pos, if_neg, if_true, if_false, true_and, and_true, not_true_eq_false, not_false_eq_true, false_and, and_false, Option.bind_some, zq_t, zq_f, zq0, zq1, zw_id, zcl_x1 hc, hf, zfr_k hF, zfr_r0 hF, zfr_r1 hF, zfr_lk hF, zfr_fk hF, zcl_c3 hc, (zcl_sc hc).2.1, has, ell])
      · rw [zm_193]
        ((try simp only [zbd_conv]); simp (disch := first | assumption | omega | trivial) only [↓reduceIte, zbd_some, eq_self, Int.reduceEq, Int.reduceLT, Int.reduceLE, and_self, or_true, true_or, or_false, false_or, if_pos, if_neg, if_true, if_false, true_and, and_true, not_true_eq_false, not_false_eq_true, false_and, and_false, Option.bind_some, zq_t, zq_f, zq0, zq1, zw_id, zmo_1 hm, zmo_r0 hm, zmo_s1 hm, zzm_isLine hm hwf oo, zy_in])
  · refine zz_read (v := -1) h ?_ ?_ oo
    · rw [zm_112]
      ((try simp only [zbd_conv]); simp (disch := first | assumption | omega | trivial) only [↓reduceIte, zbd_some, eq_self, Int.reduceEq, Int.reduceLT, Int.reduceLE, and_self, or_true, true_or, or_false, false_or, if_pos, if_neg, if_true, if_false, true_and, and_true, not_true_eq_false, not_false_eq_true, false_and, and_false, Option.bind_some, zq_t, zq_f, zq0, zq1, zw_id, zcl_x1 hc, hf, zfr_k hF, zfr_r0 hF, zfr_r1 hF, zfr_lk hF, zfr_fk hF, zcl_c3 hc, (zcl_sc hc).2.1, zzc_has hF hrep])
    · rw [zm_193]
      ((try simp only [zbd_conv]); simp (disch := first | assumption | omega | trivial) only [↓reduceIte, zbd_some, eq_self, Int.reduceEq, Int.reduceLT, Int.reduceLE, and_self, or_true, true_or, or_false, false_or, if_pos, if_neg, if_true, if_false, true_and, and_true, not_true_eq_false, not_false_eq_true, false_and, and_false, Option.bind_some, zq_t, zq_f, zq0, zq1, zw_id, zmo_1 hm, zmo_r0 hm, zmo_s1 hm, zzm_isLine hm hwf oo])
end ZRe
