/-! what there is: places, folds, the caret -/
section ZRg
variable {d : Nat} {S : zS} {I J K R : zI} {T : Int × Nat} {X M n v l f c k x y z r i p : Int}
theorem zz_at (h : zR4 S I R X M) : zz_ok (d + 11) S I R T X M 115 198 [.inl l, .inl i, .inl x] := by
  obtain ⟨hc, hm, hap, hall⟩ := id h
  obtain ⟨⟨hrep, hwf⟩, -, hmo, -, hlay, hrz, -, -⟩ := zR4_facts h
  obtain ⟨f, hf⟩ : ∃ f, R X 6 = f := ⟨_, rfl⟩
  rw [hf] at hrep
  have hF := zcl_fr hc hf
  have h0 := hwf.1
  have oo : zo_ly I I M := zo_ly_refl
  have hpl := fun d => zzc_hasPlace (d := d) (I := I) (T := T) (l := l) (i := i) hF hrep hwf
  by_cases g1 : 0 ≤ l ∧ l < I (M + 1) 0
  · have hn := hwf.2.1 l g1.1 g1.2
    by_cases g2 : 0 ≤ i ∧ i ≤ I (M + 1) (1 + l)
    · have hll := zs_cl_ll hc (show 0 ≤ l ∧ l < 12 by omega)
      obtain ⟨q, hq⟩ : ∃ q, q = X + 135 + 11 + 9 * l := ⟨_, rfl⟩
      have ell : ∀ d, zG (d + 1) 78 [.inr (.inr (X + 135)), .inl l] (S, I, R, T) = some (q, (S, I, R, T)) := fun d => by
        rw [hq]; exact zx_laidLine (zcl_sc hc) (by omega)
      have pic : zr_pic I M q l := by rw [hq]; exact hlay l g1.1 g1.2
      rw [← hq] at hll
      have hk4 := hll.2.1
      by_cases gx : 0 ≤ x ∧ x ≤ 3
      · obtain ⟨J1, a1, a2⟩ := zzm_firstRow (d := d + 3) (T := T) hm hmo hwf hrz oo (l := l) (by omega)
        obtain ⟨J, b1, b2, b3⟩ := zzm_lays (d := d + 5) (T := T) hm hmo hwf a2 g1
        obtain ⟨u1, u2, u3, u4⟩ := zl_both hn.1 pic b3
        obtain ⟨u3a, u3b⟩ := u3 i g2.1 g2.2
        have hP : J (M + 1) = I (M + 1) := zo_P b2
        have hi := zz_ind (n := I (M + 1) (1 + l)) (l := l) hmo
        have hw4 := hmo.1
        have hcol := zl_cols pic.2.2.1 hn hmo.2.1 (by omega)
        have hrow : 0 ≤ I (q + 1) i ∧ I (q + 1) i ≤ 41 := by
          have hr1 := pic.2.2.1.1
          by_cases gi : i = I (M + 1) (1 + l)
          · rw [gi]; have := hcol.2.2; omega
          · have := (hcol.1 i g2.1 (by omega)).2.2.2; omega
        rcases (show x = 0 ∨ x = 1 ∨ x = 2 ∨ x = 3 by omega) with g | g | g | g <;> subst g
        · by_cases gh : zt_hid (I (M + 1)) l
          · refine zz_read (v := -4) h ?_ (K := J) ?_ b2
            · rw [zm_115]
              ((try simp only [zbd_conv]); simp (disch := first | assumption | omega | trivial) only [↓reduceIte, zbd_some, eq_self, Int.reduceEq, Int.reduceLT, Int.reduceLE, and_self, or_true, true_or, or_false, false_or, if_pos, if_neg, if_true, if_false, true_and, and_true, not_true_eq_false, not_false_eq_true, false_and, and_false, Option.bind_some, zq_t, zq_f, zq0, zq1, zw_id, zcl_x1 hc, hf, zfr_k hF, zfr_r0 hF, zfr_r1 hF, zfr_lk hF, zfr_fk hF, zcl_c3 hc, (zcl_sc hc).2.1, hpl, ell, zzc_hides hF hrep hwf])
            · rw [zm_198]
              ((try simp only [zbd_conv]); simp (disch := first | assumption | omega | trivial) only [↓reduceIte, zbd_some, eq_self, Int.reduceEq, Int.reduceLT, Int.reduceLE, and_self, or_true, true_or, or_false, false_or, if_pos, if_neg, if_true, if_false, true_and, and_true, not_true_eq_false, not_false_eq_true, false_and, and_false, Option.bind_some, zq_t, zq_f, zq0, zq1, zw_id, zmo_1 hm, zmo_r0 hm, zmo_s1 hm, zzm_isLine hm hwf oo, zzm_len hm hwf oo, zy_in, a1, b1, zzm_isHidden hm hwf b2])
          · have sb := zt_sm_ir (l := l) hrz hwf.2.1 ⟨g1.1, by omega⟩
            have ro := zzc_rowOf (d := d + 5) (I := I) (T := T) (l := l) (i := i) hc hF hrep hwf hrz g1 (by omega) (by rw [← hq]; exact hrow)
            rw [← hq] at ro
            refine zz_read (v := zk_sm (zt_vis (I (M + 1)) (zr_rz I X)) l + I (q + 1) i) h ?_ (K := J) ?_ b2
            · rw [zm_115]
              ((try simp only [zbd_conv]); simp (disch := first | assumption | omega | trivial) only [↓reduceIte, zbd_some, eq_self, Int.reduceEq, Int.reduceLT, Int.reduceLE, and_self, or_true, true_or, or_false, false_or, if_pos, if_neg, if_true, if_false, true_and, and_true, not_true_eq_false, not_false_eq_true, false_and, and_false, Option.bind_some, zq_t, zq_f, zq0, zq1, zw_id, zcl_x1 hc, hf, zfr_k hF, zfr_r0 hF, zfr_r1 hF, zfr_lk hF, zfr_fk hF, zcl_c3 hc, (zcl_sc hc).2.1, hpl, ell, zzc_hides hF hrep hwf, ro])
            · rw [zm_198]
              ((try simp only [zbd_conv]); simp (disch := first | assumption | omega | trivial) only [↓reduceIte, zbd_some, eq_self, Int.reduceEq, Int.reduceLT, Int.reduceLE, and_self, or_true, true_or, or_false, false_or, if_pos, if_neg, if_true, if_false, true_and, and_true, not_true_eq_false, not_false_eq_true, false_and, and_false, Option.bind_some, zq_t, zq_f, zq0, zq1, zw_id, zmo_1 hm, zmo_r0 hm, zmo_s1 hm, zmo_r17 hm, zmo_s7 hm, zzm_isLine hm hwf oo, zzm_len hm hwf oo, zy_in, a1, b1, zzm_isHidden hm hwf b2, u3a])
        · refine zz_read (v := I (q + 2) i) h ?_ (K := J) ?_ b2
          · rw [zm_115]
            ((try simp only [zbd_conv]); simp (disch := first | assumption | omega | trivial) only [↓reduceIte, zbd_some, eq_self, Int.reduceEq, Int.reduceLT, Int.reduceLE, and_self, or_true, true_or, or_false, false_or, if_pos, if_neg, if_true, if_false, true_and, and_true, not_true_eq_false, not_false_eq_true, false_and, and_false, Option.bind_some, zq_t, zq_f, zq0, zq1, zw_id, zcl_x1 hc, hf, zfr_k hF, zfr_r0 hF, zfr_r1 hF, zfr_lk hF, zfr_fk hF, zcl_c3 hc, (zcl_sc hc).2.1, hpl, ell, hk4, zx_columnOf hll, zk_pk_in])
          · rw [zm_198]
            ((try simp only [zbd_conv]); simp (disch := first | assumption | omega | trivial) only [↓reduceIte, zbd_some, eq_self, Int.reduceEq, Int.reduceLT, Int.reduceLE, and_self, or_true, true_or, or_false, false_or, if_pos, if_neg, if_true, if_false, true_and, and_true, not_true_eq_false, not_false_eq_true, false_and, and_false, Option.bind_some, zq_t, zq_f, zq0, zq1, zw_id, zmo_1 hm, zmo_r0 hm, zmo_s1 hm, zmo_r18 hm, zmo_s8 hm, zzm_isLine hm hwf oo, zzm_len hm hwf oo, zy_in, a1, b1, u3b])
        · have st := zl_stop_both hn.1 pic b3 g2
          have ms := zy_isStop (d := d + 8) (I := J) (T := T) (l := l) (i := i) (n := I (M + 1) (1 + l)) hm (by omega) (by rw [hP]) hn g2
          rw [hP] at ms
          by_cases gs : zl_isstop (I (M + 1) (1 + l)) (zt_sg (I (M + 1)) l) (J (M + 10)) i
          · have gs' := st.mpr gs
            refine zz_read (v := 1) h ?_ (K := J) ?_ b2
            · rw [zm_115]
              ((try simp only [zbd_conv]); simp (disch := first | assumption | omega | trivial) only [↓reduceIte, zbd_some, eq_self, Int.reduceEq, Int.reduceLT, Int.reduceLE, and_self, or_true, true_or, or_false, false_or, if_pos, if_neg, if_true, if_false, true_and, and_true, not_true_eq_false, not_false_eq_true, false_and, and_false, Option.bind_some, zq_t, zq_f, zq0, zq1, zw_id, zcl_x1 hc, hf, zfr_k hF, zfr_r0 hF, zfr_r1 hF, zfr_lk hF, zfr_fk hF, zcl_c3 hc, (zcl_sc hc).2.1, hpl, ell, hk4, zx_isStop hll, zk_pk_in])
            · rw [zm_198]
              ((try simp only [zbd_conv]); simp (disch := first | assumption | omega | trivial) only [↓reduceIte, zbd_some, eq_self, Int.reduceEq, Int.reduceLT, Int.reduceLE, and_self, or_true, true_or, or_false, false_or, if_pos, if_neg, if_true, if_false, true_and, and_true, not_true_eq_false, not_false_eq_true, false_and, and_false, Option.bind_some, zq_t, zq_f, zq0, zq1, zw_id, zmo_1 hm, zmo_r0 hm, zmo_s1 hm, zzm_isLine hm hwf oo, zzm_len hm hwf oo, zy_in, a1, b1, ms])
          · have gs' : ¬ I (q + 5) i = 1 := fun z => gs (st.mp z)
            refine zz_read (v := 0) h ?_ (K := J) ?_ b2
            · rw [zm_115]
              ((try simp only [zbd_conv]); simp (disch := first | assumption | omega | trivial) only [↓reduceIte, zbd_some, eq_self, Int.reduceEq, Int.reduceLT, Int.reduceLE, and_self, or_true, true_or, or_false, false_or, if_pos, if_neg, if_true, if_false, true_and, and_true, not_true_eq_false, not_false_eq_true, false_and, and_false, Option.bind_some, zq_t, zq_f, zq0, zq1, zw_id, zcl_x1 hc, hf, zfr_k hF, zfr_r0 hF, zfr_r1 hF, zfr_lk hF, zfr_fk hF, zcl_c3 hc, (zcl_sc hc).2.1, hpl, ell, hk4, zx_isStop hll, zk_pk_in])
            · rw [zm_198]
              ((try simp only [zbd_conv]); simp (disch := first | assumption | omega | trivial) only [↓reduceIte, zbd_some, eq_self, Int.reduceEq, Int.reduceLT, Int.reduceLE, and_self, or_true, true_or, or_false, false_or, if_pos, if_neg, if_true, if_false, true_and, and_true, not_true_eq_false, not_false_eq_true, false_and, and_false, Option.bind_some, zq_t, zq_f, zq0, zq1, zw_id, zmo_1 hm, zmo_r0 hm, zmo_s1 hm, zzm_isLine hm hwf oo, zzm_len hm hwf oo, zy_in, a1, b1, ms])
        · have ms := zy_isBreak (d := d + 7) (I := J) (T := T) (l := l) (i := i) (n := I (M + 1) (1 + l)) hm (by omega) (by rw [hP]) hn g2
          rw [hP] at ms
          have st : I (q + 6) i = zq (zl_brk (I (M + 1) (1 + l)) (zt_sg (I (M + 1)) l) i) := pic.2.2.2.2.1 i g2.1 g2.2
          by_cases gs : zl_brk (I (M + 1) (1 + l)) (zt_sg (I (M + 1)) l) i
          · rw [zq_t gs] at st
            refine zz_read (v := 1) h ?_ (K := J) ?_ b2
            · rw [zm_115]
              ((try simp only [zbd_conv]); simp (disch := first | assumption | omega | trivial) only [↓reduceIte, zbd_some, eq_self, Int.reduceEq, Int.reduceLT, Int.reduceLE, and_self, or_true, true_or, or_false, false_or, if_pos, if_neg, if_true, if_false, true_and, and_true, not_true_eq_false, not_false_eq_true, false_and, and_false, Option.bind_some, zq_t, zq_f, zq0, zq1, zw_id, zcl_x1 hc, hf, zfr_k hF, zfr_r0 hF, zfr_r1 hF, zfr_lk hF, zfr_fk hF, zcl_c3 hc, (zcl_sc hc).2.1, hpl, ell, hk4, zx_isBreak hll, zk_pk_in])
            · rw [zm_198]
              ((try simp only [zbd_conv]); simp (disch := first | assumption | omega | trivial) only [↓reduceIte, zbd_some, eq_self, Int.reduceEq, Int.reduceLT, Int.reduceLE, and_self, or_true, true_or, or_false, false_or, if_pos, if_neg, if_true, if_false, true_and, and_true, not_true_eq_false, not_false_eq_true, false_and, and_false, Option.bind_some, zq_t, zq_f, zq0, zq1, zw_id, zmo_1 hm, zmo_r0 hm, zmo_s1 hm, zzm_isLine hm hwf oo, zzm_len hm hwf oo, zy_in, a1, b1, ms])
          · rw [zq_f gs] at st
            refine zz_read (v := 0) h ?_ (K := J) ?_ b2
            · rw [zm_115]
              ((try simp only [zbd_conv]); simp (disch := first | assumption | omega | trivial) only [↓reduceIte, zbd_some, eq_self, Int.reduceEq, Int.reduceLT, Int.reduceLE, and_self, or_true, true_or, or_false, false_or, if_pos, if_neg, if_true, if_false, true_and, and_true, not_true_eq_false, not_false_eq_true, false_and, and_false, Option.bind_some, zq_t, zq_f, zq0, zq1, zw_id, zcl_x1 hc, hf, zfr_k hF, zfr_r0 hF, zfr_r1 hF, zfr_lk hF, zfr_fk hF, zcl_c3 hc, (zcl_sc hc).2.1, hpl, ell, hk4, zx_isBreak hll, zk_pk_in])
            · rw [zm_198]
              ((try simp only [zbd_conv]); simp (disch := first | assumption | omega | trivial) only [↓reduceIte, zbd_some, eq_self, Int.reduceEq, Int.reduceLT, Int.reduceLE, and_self, or_true, true_or, or_false, false_or, if_pos, if_neg, if_true, if_false, true_and, and_true, not_true_eq_false, not_false_eq_true, false_and, and_false, Option.bind_some, zq_t, zq_f, zq0, zq1, zw_id, zmo_1 hm, zmo_r0 hm, zmo_s1 hm, zzm_isLine hm hwf oo, zzm_len hm hwf oo, zy_in, a1, b1, ms])
      · refine zz_read (v := -1) h ?_ ?_ oo
        · rw [zm_115]
          ((try simp only [zbd_conv]); simp (disch := first | assumption | omega | trivial) only [↓reduceIte, zbd_some, eq_self, Int.reduceEq, Int.reduceLT, Int.reduceLE, and_self, or_true, true_or, or_false, false_or, if_pos, if_neg, if_true, if_false, true_and, and_true, not_true_eq_false, not_false_eq_true, false_and, and_false, Option.bind_some, zq_t, zq_f, zq0, zq1, zw_id, zcl_x1 hc, hf, zfr_k hF, zfr_r0 hF, zfr_r1 hF, zfr_lk hF, zfr_fk hF, zcl_c3 hc, (zcl_sc hc).2.1, hpl, ell])
        · rw [zm_198]
          ((try simp only [zbd_conv]); simp (disch := first | assumption | omega | trivial) only [↓reduceIte, zbd_some, eq_self, Int.reduceEq, Int.reduceLT, Int.reduceLE, and_self, or_true, true_or, or_false, false_or, if_pos, if_neg, if_true, if_false, true_and, and_true, not_true_eq_false, not_false_eq_true, false_and, and_false, Option.bind_some, zq_t, zq_f, zq0, zq1, zw_id, zmo_1 hm, zmo_r0 hm, zmo_s1 hm, zzm_isLine hm hwf oo, zzm_len hm hwf oo, zy_in])
    · refine zz_read (v := -1) h ?_ ?_ oo
      · rw [zm_115]
        ((try simp only [zbd_conv]); simp (disch := first | assumption | omega | trivial) only [↓reduceIte, zbd_some, eq_self, Int.reduceEq, Int.reduceLT, Int.reduceLE, and_self, or_true, true_or, or_false, false_or, if_pos, if_neg, if_true, if_false, true_and, and_true, not_true_eq_false, not_false_eq_true, false_and, and_false, Option.bind_some, zq_t, zq_f, zq0, zq1, zw_id, zcl_x1 hc, hf, zfr_k hF, zfr_r0 hF, zfr_r1 hF, zfr_lk hF, zfr_fk hF, zcl_c3 hc, (zcl_sc hc).2.1, hpl])
      · rw [zm_198]
        ((try simp only [zbd_conv]); simp (disch := first | assumption | omega | trivial) only [↓reduceIte, zbd_some, eq_self, Int.reduceEq, Int.reduceLT, Int.reduceLE, and_self, or_true, true_or, or_false, false_or, if_pos, if_neg, if_true, if_false, true_and, and_true, not_true_eq_false, not_false_eq_true, false_and, and_false, Option.bind_some, zq_t, zq_f, zq0, zq1, zw_id, zmo_1 hm, zmo_r0 hm, zmo_s1 hm, zzm_isLine hm hwf oo, zzm_len hm hwf oo, zy_in])
  · refine zz_read (v := -1) h ?_ ?_ oo
    · rw [zm_115]
      ((try simp only [zbd_conv]); simp (disch := first | assumption | omega | trivial) only [↓reduceIte, zbd_some, eq_self, Int.reduceEq, Int.reduceLT, Int.reduceLE, and_self, or_true, true_or, or_false, false_or, if_pos, if_neg, if_true, if_false, true_and, and_true, not_true_eq_false, not_false_eq_true, false_and, and_false, Option.bind_some, zq_t, zq_f, zq0, zq1, zw_id, zcl_x1 hc, hf, zfr_k hF, zfr_r0 hF, zfr_r1 hF, zfr_lk hF, zfr_fk hF, zcl_c3 hc, (zcl_sc hc).2.1, hpl])
    · rw [zm_198]
      ((try simp only [zbd_conv]); simp (disch := first | assumption | omega | trivial) only [↓reduceIte, zbd_some, eq_self, Int.reduceEq, Int.reduceLT, Int.reduceLE, and_self, or_true, true_or, or_false, false_or, if_pos, if_neg, if_true, if_false, true_and, and_true, not_true_eq_false, not_false_eq_true, false_and, and_false, Option.bind_some, zq_t, zq_f, zq0, zq1, zw_id, zmo_1 hm, zmo_r0 hm, zmo_s1 hm, zzm_isLine hm hwf oo])
theorem zz_fold (h : zR4 S I R X M) : zz_ok (d + 11) S I R T X M 117 201 [.inl k, .inl x] := by
  obtain ⟨hc, hm, hap, hall⟩ := id h
  obtain ⟨⟨hrep, hwf⟩, -, hmo, -, hlay, hrz, -, -⟩ := zR4_facts h
  obtain ⟨f, hf⟩ : ∃ f, R X 6 = f := ⟨_, rfl⟩
  rw [hf] at hrep
  have hF := zcl_fr hc hf
  have h0 := hwf.1
  have h8 := hwf.2.2.1
  have oo : zo_ly I I M := zo_ly_refl
  have hps := fun d => zzc_Fhas (d := d) (I := I) (T := T) (k := k) hF hrep
  by_cases g1 : 0 ≤ k ∧ k < I (M + 1) 493
  · by_cases gx : 0 ≤ x ∧ x ≤ 3
    · rcases (show x = 0 ∨ x = 1 ∨ x = 2 ∨ x = 3 by omega) with g | g | g | g <;> subst g
      · refine zz_read (v := I (M + 1) (494 + 3 * k)) h ?_ ?_ oo
        · rw [zm_117]
          ((try simp only [zbd_conv]); simp (disch := first | assumption | omega | trivial) only [↓reduceIte, zbd_some, eq_self, Int.reduceEq, Int.reduceLT, Int.reduceLE, and_self, or_true, true_or, or_false, false_or, if_pos, if_neg, if_true, if_false, true_and, and_true, not_true_eq_false, not_false_eq_true, false_and, and_false, Option.bind_some, zq_t, zq_f, zq0, zq1, zw_id, zcl_x1 hc, hf, zfr_k hF, zfr_r0 hF, zfr_r1 hF, zfr_lk hF, zfr_fk hF, zcl_c3 hc, (zcl_sc hc).2.1, hps, zzc_firstOf hF hrep hwf])
        · rw [zm_201]
          ((try simp only [zbd_conv]); simp (disch := first | assumption | omega | trivial) only [↓reduceIte, zbd_some, eq_self, Int.reduceEq, Int.reduceLT, Int.reduceLE, and_self, or_true, true_or, or_false, false_or, if_pos, if_neg, if_true, if_false, true_and, and_true, not_true_eq_false, not_false_eq_true, false_and, and_false, Option.bind_some, zq_t, zq_f, zq0, zq1, zw_id, zmo_1 hm, zmo_r0 hm, zmo_s1 hm, zy_in, Int.add_zero])
      · refine zz_read (v := I (M + 1) (494 + 3 * k + 1)) h ?_ ?_ oo
        · rw [zm_117, show 494 + 3 * k + 1 = 495 + 3 * k by omega]
          ((try simp only [zbd_conv]); simp (disch := first | assumption | omega | trivial) only [↓reduceIte, zbd_some, eq_self, Int.reduceEq, Int.reduceLT, Int.reduceLE, and_self, or_true, true_or, or_false, false_or, if_pos, if_neg, if_true, if_false, true_and, and_true, not_true_eq_false, not_false_eq_true, false_and, and_false, Option.bind_some, zq_t, zq_f, zq0, zq1, zw_id, zcl_x1 hc, hf, zfr_k hF, zfr_r0 hF, zfr_r1 hF, zfr_lk hF, zfr_fk hF, zcl_c3 hc, (zcl_sc hc).2.1, hps, zzc_lastOf hF hrep hwf])
        · rw [zm_201]
          ((try simp only [zbd_conv]); simp (disch := first | assumption | omega | trivial) only [↓reduceIte, zbd_some, eq_self, Int.reduceEq, Int.reduceLT, Int.reduceLE, and_self, or_true, true_or, or_false, false_or, if_pos, if_neg, if_true, if_false, true_and, and_true, not_true_eq_false, not_false_eq_true, false_and, and_false, Option.bind_some, zq_t, zq_f, zq0, zq1, zw_id, zmo_1 hm, zmo_r0 hm, zmo_s1 hm, zy_in])
      · have hv := (hwf.2.2.2.1 k g1.1 g1.2).2
        refine zz_read (v := I (M + 1) (494 + 3 * k + 2)) h ?_ ?_ oo
        · rw [zm_117, show 494 + 3 * k + 2 = 496 + 3 * k by omega]
          by_cases gs : I (M + 1) (496 + 3 * k) = 1
          · ((try simp only [zbd_conv]); simp (disch := first | assumption | omega | trivial) only [↓reduceIte, zbd_some, eq_self, Int.reduceEq, Int.reduceLT, Int.reduceLE, and_self, or_true, true_or, or_false, false_or, if_pos, if_neg, if_true, if_false, true_and, and_true, not_true_eq_false, not_false_eq_true, false_and, and_false, Option.bind_some, zq_t, zq_f, zq0, zq1, zw_id, zcl_x1 hc, hf, zfr_k hF, zfr_r0 hF, zfr_r1 hF, zfr_lk hF, zfr_fk hF, zcl_c3 hc, (zcl_sc hc).2.1, hps, zzc_isShut hF hrep hwf, gs])
          · have gs' : I (M + 1) (496 + 3 * k) = 0 := by omega
            ((try simp only [zbd_conv]); simp (disch := first | assumption | omega | trivial) only [↓reduceIte, zbd_some, eq_self, Int.reduceEq, Int.reduceLT, Int.reduceLE, and_self, or_true, true_or, or_false, false_or, if_pos, if_neg, if_true, if_false, true_and, and_true, not_true_eq_false, not_false_eq_true, false_and, and_false, Option.bind_some, zq_t, zq_f, zq0, zq1, zw_id, zcl_x1 hc, hf, zfr_k hF, zfr_r0 hF, zfr_r1 hF, zfr_lk hF, zfr_fk hF, zcl_c3 hc, (zcl_sc hc).2.1, hps, zzc_isShut hF hrep hwf, gs', Int.reduceEq])
        · rw [zm_201]
          ((try simp only [zbd_conv]); simp (disch := first | assumption | omega | trivial) only [↓reduceIte, zbd_some, eq_self, Int.reduceEq, Int.reduceLT, Int.reduceLE, and_self, or_true, true_or, or_false, false_or, if_pos, if_neg, if_true, if_false, true_and, and_true, not_true_eq_false, not_false_eq_true, false_and, and_false, Option.bind_some, zq_t, zq_f, zq0, zq1, zw_id, zmo_1 hm, zmo_r0 hm, zmo_s1 hm, zy_in])
      · refine zz_read (v := zk_sm (fun j => zq (¬ j = k ∧ zf_in (I (M + 1) (494 + 3 * j)) (I (M + 1) (495 + 3 * j)) (I (M + 1) (494 + 3 * k)) (I (M + 1) (495 + 3 * k)))) (I (M + 1) 493)) h ?_ ?_ oo
        · rw [zm_117]
          ((try simp only [zbd_conv]); simp (disch := first | assumption | omega | trivial) only [↓reduceIte, zbd_some, eq_self, Int.reduceEq, Int.reduceLT, Int.reduceLE, and_self, or_true, true_or, or_false, false_or, if_pos, if_neg, if_true, if_false, true_and, and_true, not_true_eq_false, not_false_eq_true, false_and, and_false, Option.bind_some, zq_t, zq_f, zq0, zq1, zw_id, zcl_x1 hc, hf, zfr_k hF, zfr_r0 hF, zfr_r1 hF, zfr_lk hF, zfr_fk hF, zcl_c3 hc, (zcl_sc hc).2.1, hps, zzc_depthOf hF hrep hwf])
        · have lp : zi_run zt_201 (zG (d + 10)) 19999 59 [some (.inr (.inr M)), some (.inl k), none, some (.inl 0), some (.inl 0)] [] (S, I, R, T) = some (zk_sm (fun j => zq (¬ j = k ∧ zf_in (I (M + 1) (494 + 3 * j)) (I (M + 1) (495 + 3 * j)) (I (M + 1) (494 + 3 * k)) (I (M + 1) (495 + 3 * k)))) (I (M + 1) 493), (S, I, R, T)) := by
            refine zl_sum (n := I (M + 1) 493) (g := fun j => zq (¬ j = k ∧ zf_in (I (M + 1) (494 + 3 * j)) (I (M + 1) (495 + 3 * j)) (I (M + 1) (494 + 3 * k)) (I (M + 1) (495 + 3 * k)))) (run := fun w j s => zi_run zt_201 (zG (d + 10)) w 59 [some (.inr (.inr M)), some (.inl k), none, some (.inl s), some (.inl j)] [] (S, I, R, T)) (by omega) (fun w j j0 j1 => ?_) (fun w => ?_) (by omega) <;> (show zi_run _ _ _ _ _ _ _ = _) <;> rw [zk_201_59]
            · have hs := zk_sm_ir (g := fun j => zq (¬ j = k ∧ zf_in (I (M + 1) (494 + 3 * j)) (I (M + 1) (495 + 3 * j)) (I (M + 1) (494 + 3 * k)) (I (M + 1) (495 + 3 * k)))) (m := 1) j0 (fun i _ _ => by
                have := zq01 (P := ¬ i = k ∧ zf_in (I (M + 1) (494 + 3 * i)) (I (M + 1) (495 + 3 * i)) (I (M + 1) (494 + 3 * k)) (I (M + 1) (495 + 3 * k)))
                show 0 ≤ zq _ ∧ zq _ ≤ 1
                omega)
              generalize zk_sm _ j = s at hs ⊢
              unfold zf_in
              by_cases q1 : j = k
              · ((try simp only [zbd_conv]); simp (disch := first | assumption | omega | trivial) only [↓reduceIte, zbd_some, eq_self, Int.reduceEq, Int.reduceLT, Int.reduceLE, and_self, or_true, true_or, or_false, false_or, if_pos, if_neg, if_true, if_false, true_and, and_true, not_true_eq_false, not_false_eq_true, false_and, and_false, Option.bind_some, zq_t, zq_f, zq0, zq1, zw_id, zmo_1 hm, zmo_r0 hm, zmo_s1 hm])
              · by_cases q2 : I (M + 1) (494 + 3 * j) ≤ I (M + 1) (494 + 3 * k) ∧ I (M + 1) (495 + 3 * k) ≤ I (M + 1) (495 + 3 * j)
                · ((try simp only [zbd_conv]); simp (disch := first | assumption | omega | trivial) only [↓reduceIte, zbd_some, eq_self, Int.reduceEq, Int.reduceLT, Int.reduceLE, and_self, or_true, true_or, or_false, false_or, if_pos, if_neg, if_true, if_false, true_and, and_true, not_true_eq_false, not_false_eq_true, false_and, and_false, Option.bind_some, zq_t, zq_f, zq0, zq1, zw_id, zmo_1 hm, zmo_r0 hm, zmo_s1 hm, zy_firstOf hm, zy_lastOf hm, zy_has])
                · ((try simp only [zbd_conv]); simp (disch := first | assumption | omega | trivial) only [↓reduceIte, zbd_some, eq_self, Int.reduceEq, Int.reduceLT, Int.reduceLE, and_self, or_true, true_or, or_false, false_or, if_pos, if_neg, if_true, if_false, true_and, and_true, not_true_eq_false, not_false_eq_true, false_and, and_false, Option.bind_some, zq_t, zq_f, zq0, zq1, zw_id, zmo_1 hm, zmo_r0 hm, zmo_s1 hm, zy_firstOf hm, zy_lastOf hm, zy_has])
            · generalize zk_sm _ (I (M + 1) 493) = s
              ((try simp only [zbd_conv]); simp (disch := first | assumption | omega | trivial) only [↓reduceIte, zbd_some, eq_self, Int.reduceEq, Int.reduceLT, Int.reduceLE, and_self, or_true, true_or, or_false, false_or, if_pos, if_neg, if_true, if_false, true_and, and_true, not_true_eq_false, not_false_eq_true, false_and, and_false, Option.bind_some, zq_t, zq_f, zq0, zq1, zw_id, zmo_1 hm, zmo_r0 hm, zmo_s1 hm])
          rw [zm_201]
          ((try simp only [zbd_conv]); simp (disch := first | assumption | omega | trivial) only [↓reduceIte, zbd_some, eq_self, Int.reduceEq, Int.reduceLT, Int.reduceLE, and_self, or_true, true_or, or_false, false_or, if_pos, if_neg, if_true, if_false, true_and, and_true, not_true_eq_false, not_false_eq_true, false_and, and_false, Option.bind_some, zq_t, zq_f, zq0, zq1, zw_id, zmo_1 hm, zmo_r0 hm, zmo_s1 hm, zy_in])
          exact lp
    · refine zz_read (v := -1) h ?_ ?_ oo
      · rw [zm_117]
        ((try simp only [zbd_conv]); simp (disch := first | assumption | omega | trivial) only [↓reduceIte, zbd_some, eq_self, Int.reduceEq, Int.reduceLT, Int.reduceLE, and_self, or_true, true_or, or_false, false_or, if_pos, if_neg, if_true, if_false, true_and, and_true, not_true_eq_false, not_false_eq_true, false_and, and_false, Option.bind_some, zq_t, zq_f, zq0, zq1, zw_id, zcl_x1 hc, hf, zfr_k hF, zfr_r0 hF, zfr_r1 hF, zfr_lk hF, zfr_fk hF, zcl_c3 hc, (zcl_sc hc).2.1, hps])
      · rw [zm_201]
        ((try simp only [zbd_conv]); simp (disch := first | assumption | omega | trivial) only [↓reduceIte, zbd_some, eq_self, Int.reduceEq, Int.reduceLT, Int.reduceLE, and_self, or_true, true_or, or_false, false_or, if_pos, if_neg, if_true, if_false, true_and, and_true, not_true_eq_false, not_false_eq_true, false_and, and_false, Option.bind_some, zq_t, zq_f, zq0, zq1, zw_id, zmo_1 hm, zmo_r0 hm, zmo_s1 hm, zy_in])
  · refine zz_read (v := -1) h ?_ ?_ oo
    · rw [zm_117]
      ((try simp only [zbd_conv]); simp (disch := first | assumption | omega | trivial) only [↓reduceIte, zbd_some, eq_self, Int.reduceEq, Int.reduceLT, Int.reduceLE, and_self, or_true, true_or, or_false, false_or, if_pos, if_neg, if_true, if_false, true_and, and_true, not_true_eq_false, not_false_eq_true, false_and, and_false, Option.bind_some, zq_t, zq_f, zq0, zq1, zw_id, zcl_x1 hc, hf, zfr_k hF, zfr_r0 hF, zfr_r1 hF, zfr_lk hF, zfr_fk hF, zcl_c3 hc, (zcl_sc hc).2.1, hps])
    · rw [zm_201]
      ((try simp only [zbd_conv]); simp (disch := first | assumption | omega | trivial) only [↓reduceIte, zbd_some, eq_self, Int.reduceEq, Int.reduceLT, Int.reduceLE, and_self, or_true, true_or, or_false, false_or, if_pos, if_neg, if_true, if_false, true_and, and_true, not_true_eq_false, not_false_eq_true, false_and, and_false, Option.bind_some, zq_t, zq_f, zq0, zq1, zw_id, zmo_1 hm, zmo_r0 hm, zmo_s1 hm, zy_in])
/-- the row of the caret -/
theorem zz_caretRow (h : zR4 S I R X M) : ∃ v J, (∀ d, zG (d + 6) 142 [.inr (.inr X)] (S, I, R, T) = some (v, (S, I, R, T))) ∧ zG (d + 8) 202 [.inr (.inr M)] (S, I, R, T) = some (v, (S, J, R, T)) ∧ zo_ly I J M ∧ 0 ≤ v ∧ v ≤ 600 := by
  obtain ⟨hc, hm, hap, hall⟩ := id h
  obtain ⟨⟨hrep, hwf⟩, -, hmo, -, hlay, hrz, -, -⟩ := zR4_facts h
  obtain ⟨f, hf⟩ : ∃ f, R X 6 = f := ⟨_, rfl⟩
  rw [hf] at hrep
  have hF := zcl_fr hc hf
  have h0 := hwf.1
  obtain ⟨w6, w7, w8⟩ := hwf.2.2.2.2.2
  obtain ⟨l, hl⟩ : ∃ l, l = I (M + 1) 518 := ⟨_, rfl⟩
  rw [← hl] at w6 w8
  have hn := hwf.2.1 l w6.1 w6.2
  obtain ⟨J1, a1, a2⟩ := zzm_firstRow (d := d) (T := T) hm hmo hwf hrz zo_ly_refl (l := l) (by omega)
  obtain ⟨J, b1, b2, b3⟩ := zzm_lays (d := d + 2) (T := T) hm hmo hwf a2 w6
  have pic : zr_pic I M (X + 135 + 11 + 9 * l) l := hlay l w6.1 w6.2
  obtain ⟨u1, u2, u3, u4⟩ := zl_both hn.1 pic b3
  obtain ⟨u3a, u3b⟩ := u3 (I (M + 1) 519) w7 w8
  have hi := zz_ind (n := I (M + 1) (1 + l)) (l := l) hmo
  have hw4 := hmo.1
  have hcol := zl_cols pic.2.2.1 hn hmo.2.1 (by omega)
  have hrow : 0 ≤ I (X + 135 + 11 + 9 * l + 1) (I (M + 1) 519) ∧ I (X + 135 + 11 + 9 * l + 1) (I (M + 1) 519) ≤ 41 := by
    have hr1 := pic.2.2.1.1
    by_cases gi : I (M + 1) 519 = I (M + 1) (1 + l)
    · rw [gi]; have := hcol.2.2; omega
    · have := (hcol.1 _ w7 (by omega)).2.2.2; omega
  have sb := zt_sm_ir (l := l) hrz hwf.2.1 ⟨w6.1, by omega⟩
  have c6 : I f 2 = l := hrep.2.2.2.2.2.1.trans hl.symm
  have c7 : I f 3 = I (M + 1) 519 := hrep.2.2.2.2.2.2
  have p1 := zo_P a2
  have p2 := zo_P b2
  refine ⟨zk_sm (zt_vis (I (M + 1)) (zr_rz I X)) l + I (X + 135 + 11 + 9 * l + 1) (I (M + 1) 519), J, fun d => ?_, ?_, b2, by omega⟩
  · rw [zm_142]
    ((try simp only [zbd_conv]); simp (disch := first | assumption | omega | trivial) only [↓reduceIte, zbd_some, eq_self, Int.reduceEq, Int.reduceLT, Int.reduceLE, and_self, or_true, true_or, or_false, false_or, if_pos, if_neg, if_true, if_false, true_and, and_true, not_true_eq_false, not_false_eq_true, false_and, and_false, Option.bind_some, zq_t, zq_f, zq0, zq1, zw_id, zcl_x1 hc, hf, zfr_k hF, zfr_r0 hF, zfr_r1 hF, zfr_lk hF, zfr_fk hF, zcl_c3 hc, (zcl_sc hc).2.1, c6, c7, zzc_rowOf hc hF hrep hwf hrz w6 (show 0 ≤ I (M + 1) 519 ∧ I (M + 1) 519 ≤ 40 by omega) hrow])
  · rw [zm_202]
    ((try simp only [zbd_conv]); simp (disch := first | assumption | omega | trivial) only [↓reduceIte, zbd_some, eq_self, Int.reduceEq, Int.reduceLT, Int.reduceLE, and_self, or_true, true_or, or_false, false_or, if_pos, if_neg, if_true, if_false, true_and, and_true, not_true_eq_false, not_false_eq_true, false_and, and_false, Option.bind_some, zq_t, zq_f, zq0, zq1, zw_id, zmo_1 hm, zmo_r0 hm, zmo_s1 hm, zmo_r17 hm, zmo_s7 hm, hl.symm, p1, p2, a1, b1, u3a])
theorem zz_caret (h : zR4 S I R X M) : zz_ok (d + 11) S I R T X M 118 204 [.inl x] := by
  obtain ⟨hc, hm, hap, hall⟩ := id h
  obtain ⟨⟨hrep, hwf⟩, -, hmo, -, hlay, hrz, hnum, -⟩ := zR4_facts h
  obtain ⟨f, hf⟩ : ∃ f, R X 6 = f := ⟨_, rfl⟩
  rw [hf] at hrep
  have hF := zcl_fr hc hf
  have h0 := hwf.1
  have oo : zo_ly I I M := zo_ly_refl
  have c6 : I f 2 = I (M + 1) 518 := hrep.2.2.2.2.2.1
  have c7 : I f 3 = I (M + 1) 519 := hrep.2.2.2.2.2.2
  by_cases gx : 0 ≤ x ∧ x ≤ 4
  · rcases (show x = 0 ∨ x = 1 ∨ x = 2 ∨ x = 3 ∨ x = 4 by omega) with g | g | g | g | g <;> subst g
    · refine zz_read (v := I (M + 1) 518) h ?_ ?_ oo
      · rw [zm_118]
        ((try simp only [zbd_conv]); simp (disch := first | assumption | omega | trivial) only [↓reduceIte, zbd_some, eq_self, Int.reduceEq, Int.reduceLT, Int.reduceLE, and_self, or_true, true_or, or_false, false_or, if_pos, if_neg, if_true, if_false, true_and, and_true, not_true_eq_false, not_false_eq_true, false_and, and_false, Option.bind_some, zq_t, zq_f, zq0, zq1, zw_id, zcl_x1 hc, hf, zfr_k hF, zfr_r0 hF, zfr_r1 hF, zfr_lk hF, zfr_fk hF, zcl_c3 hc, (zcl_sc hc).2.1, c6])
      · rw [zm_204]
        ((try simp only [zbd_conv]); simp (disch := first | assumption | omega | trivial) only [↓reduceIte, zbd_some, eq_self, Int.reduceEq, Int.reduceLT, Int.reduceLE, and_self, or_true, true_or, or_false, false_or, if_pos, if_neg, if_true, if_false, true_and, and_true, not_true_eq_false, not_false_eq_true, false_and, and_false, Option.bind_some, zq_t, zq_f, zq0, zq1, zw_id, zmo_1 hm, zmo_r0 hm, zmo_s1 hm])
    · refine zz_read (v := I (M + 1) 519) h ?_ ?_ oo
      · rw [zm_118]
        ((try simp only [zbd_conv]); simp (disch := first | assumption | omega | trivial) only [↓reduceIte, zbd_some, eq_self, Int.reduceEq, Int.reduceLT, Int.reduceLE, and_self, or_true, true_or, or_false, false_or, if_pos, if_neg, if_true, if_false, true_and, and_true, not_true_eq_false, not_false_eq_true, false_and, and_false, Option.bind_some, zq_t, zq_f, zq0, zq1, zw_id, zcl_x1 hc, hf, zfr_k hF, zfr_r0 hF, zfr_r1 hF, zfr_lk hF, zfr_fk hF, zcl_c3 hc, (zcl_sc hc).2.1, c7])
      · rw [zm_204]
        ((try simp only [zbd_conv]); simp (disch := first | assumption | omega | trivial) only [↓reduceIte, zbd_some, eq_self, Int.reduceEq, Int.reduceLT, Int.reduceLE, and_self, or_true, true_or, or_false, false_or, if_pos, if_neg, if_true, if_false, true_and, and_true, not_true_eq_false, not_false_eq_true, false_and, and_false, Option.bind_some, zq_t, zq_f, zq0, zq1, zw_id, zmo_1 hm, zmo_r0 hm, zmo_s1 hm])
    · refine zz_read (v := I M 10) h ?_ ?_ oo
      · rw [zm_118]
        ((try simp only [zbd_conv]); simp (disch := first | assumption | omega | trivial) only [↓reduceIte, zbd_some, eq_self, Int.reduceEq, Int.reduceLT, Int.reduceLE, and_self, or_true, true_or, or_false, false_or, if_pos, if_neg, if_true, if_false, true_and, and_true, not_true_eq_false, not_false_eq_true, false_and, and_false, Option.bind_some, zq_t, zq_f, zq0, zq1, zw_id, zcl_x1 hc, hf, zfr_k hF, zfr_r0 hF, zfr_r1 hF, zfr_lk hF, zfr_fk hF, zcl_c3 hc, (zcl_sc hc).2.1, hnum.1])
      · rw [zm_204]
        ((try simp only [zbd_conv]); simp (disch := first | assumption | omega | trivial) only [↓reduceIte, zbd_some, eq_self, Int.reduceEq, Int.reduceLT, Int.reduceLE, and_self, or_true, true_or, or_false, false_or, if_pos, if_neg, if_true, if_false, true_and, and_true, not_true_eq_false, not_false_eq_true, false_and, and_false, Option.bind_some, zq_t, zq_f, zq0, zq1, zw_id, zmo_1 hm, zmo_r0 hm, zmo_s1 hm])
    · obtain ⟨v, J, e1, e2, e3, -⟩ := zz_caretRow (d := d + 2) (T := T) h
      refine zz_read (v := v) h ?_ (K := J) ?_ e3
      · rw [zm_118]
        ((try simp only [zbd_conv]); simp (disch := first | assumption | omega | trivial) only [↓reduceIte, zbd_some, eq_self, Int.reduceEq, Int.reduceLT, Int.reduceLE, and_self, or_true, true_or, or_false, false_or, if_pos, if_neg, if_true, if_false, true_and, and_true, not_true_eq_false, not_false_eq_true, false_and, and_false, Option.bind_some, zq_t, zq_f, zq0, zq1, zw_id, zcl_x1 hc, hf, zfr_k hF, zfr_r0 hF, zfr_r1 hF, zfr_lk hF, zfr_fk hF, zcl_c3 hc, (zcl_sc hc).2.1, e1])
      · rw [zm_204]
        ((try simp only [zbd_conv]); simp (disch := first | assumption | omega | trivial) only [↓reduceIte, zbd_some, eq_self, Int.reduceEq, Int.reduceLT, Int.reduceLE, and_self, or_true, true_or, or_false, false_or, if_pos, if_neg, if_true, if_false, true_and, and_true, not_true_eq_false, not_false_eq_true, false_and, and_false, Option.bind_some, zq_t, zq_f, zq0, zq1, zw_id, zmo_1 hm, zmo_r0 hm, zmo_s1 hm, e2])
    · obtain ⟨w6, w7, w8⟩ := hwf.2.2.2.2.2
      obtain ⟨l, hl⟩ : ∃ l, l = I (M + 1) 518 := ⟨_, rfl⟩
      rw [← hl] at w6 w8 c6
      have hn := hwf.2.1 l w6.1 w6.2
      obtain ⟨J, b1, b2, b3⟩ := zzm_lays (d := d + 4) (T := T) hm hmo hwf oo w6
      have pic : zr_pic I M (X + 135 + 11 + 9 * l) l := hlay l w6.1 w6.2
      obtain ⟨u1, u2, u3, u4⟩ := zl_both hn.1 pic b3
      obtain ⟨u3a, u3b⟩ := u3 (I (M + 1) 519) w7 w8
      have p2 := zo_P b2
      have cc := zx_caretColumn (d := d + 7) (I := I) (T := T) hc hf c6 c7 (by omega) (by omega)
      have mc : zG (d + 10) 203 [.inr (.inr M)] (S, I, R, T) = some (I (X + 135 + 11 + 9 * l + 2) (I (M + 1) 519), (S, J, R, T)) := by
        rw [zm_203]
        ((try simp only [zbd_conv]); simp (disch := first | assumption | omega | trivial) only [↓reduceIte, zbd_some, eq_self, Int.reduceEq, Int.reduceLT, Int.reduceLE, and_self, or_true, true_or, or_false, false_or, if_pos, if_neg, if_true, if_false, true_and, and_true, not_true_eq_false, not_false_eq_true, false_and, and_false, Option.bind_some, zq_t, zq_f, zq0, zq1, zw_id, zmo_1 hm, zmo_r0 hm, zmo_s1 hm, zmo_r18 hm, zmo_s8 hm, hl.symm, b1, p2, u3b])
      refine zz_read (v := I (X + 135 + 11 + 9 * l + 2) (I (M + 1) 519)) h ?_ (K := J) ?_ b2
      · rw [zm_118]
        ((try simp only [zbd_conv]); simp (disch := first | assumption | omega | trivial) only [↓reduceIte, zbd_some, eq_self, Int.reduceEq, Int.reduceLT, Int.reduceLE, and_self, or_true, true_or, or_false, false_or, if_pos, if_neg, if_true, if_false, true_and, and_true, not_true_eq_false, not_false_eq_true, false_and, and_false, Option.bind_some, zq_t, zq_f, zq0, zq1, zw_id, zcl_x1 hc, hf, zfr_k hF, zfr_r0 hF, zfr_r1 hF, zfr_lk hF, zfr_fk hF, zcl_c3 hc, (zcl_sc hc).2.1, cc])
      · rw [zm_204]
        ((try simp only [zbd_conv]); simp (disch := first | assumption | omega | trivial) only [↓reduceIte, zbd_some, eq_self, Int.reduceEq, Int.reduceLT, Int.reduceLE, and_self, or_true, true_or, or_false, false_or, if_pos, if_neg, if_true, if_false, true_and, and_true, not_true_eq_false, not_false_eq_true, false_and, and_false, Option.bind_some, zq_t, zq_f, zq0, zq1, zw_id, zmo_1 hm, zmo_r0 hm, zmo_s1 hm, mc])
  · refine zz_read (v := -1) h ?_ ?_ oo
    · rw [zm_118]
      ((try simp only [zbd_conv]); simp (disch := first | assumption | omega | trivial) only [↓reduceIte, zbd_some, eq_self, Int.reduceEq, Int.reduceLT, Int.reduceLE, and_self, or_true, true_or, or_false, false_or, if_pos, if_neg, if_true, if_false, true_and, and_true, not_true_eq_false, not_false_eq_true, false_and, and_false, Option.bind_some, zq_t, zq_f, zq0, zq1, zw_id])
    · rw [zm_204]
      ((try simp only [zbd_conv]); simp (disch := first | assumption | omega | trivial) only [↓reduceIte, zbd_some, eq_self, Int.reduceEq, Int.reduceLT, Int.reduceLE, and_self, or_true, true_or, or_false, false_or, if_pos, if_neg, if_true, if_false, true_and, and_true, not_true_eq_false, not_false_eq_true, false_and, and_false, Option.bind_some, zq_t, zq_f, zq0, zq1, zw_id])
end ZRg
