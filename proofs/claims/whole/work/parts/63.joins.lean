/-! erase, all of it -/
section ZJo
variable {d : Nat} {S : zS} {I J J1 J2 K K0 K1 R R' F L : zI} {T : Int × Nat} {X M n v l f c k x y z r i p w t m e b g len N o : Int} {P Q Q2 s : Int → Int}
theorem zz_joins (h : zR4 S I R X M) (hp : ¬ 0 < I (M + 1) 519) : zz_ok (d + 11) S I R T X M 124 221 [] := by
  obtain ⟨hc, hm, hap, hall⟩ := id h
  have oo : zo_ly I I M := zo_ly_refl
  obtain ⟨⟨hrep, hwf⟩, -⟩ := zR4_facts h
  obtain ⟨f, hf⟩ : ∃ f, R X 6 = f := ⟨_, rfl⟩
  rw [hf] at hrep
  have hF := zcl_fr hc hf
  have fa := zcl_fa6 hc hf
  have lo := zs_fa_lo fa
  obtain ⟨P, hP⟩ : ∃ P, I (M + 1) = P := ⟨_, rfl⟩
  obtain ⟨l', hl'⟩ : ∃ l', P 518 = l' := ⟨_, rfl⟩
  rw [hP] at hrep hwf hp
  obtain ⟨w6, w7, w8⟩ := hwf.2.2.2.2.2
  have p9 : P 519 = 0 := by omega
  have w0 := hwf.1
  rw [hl'] at w6
  have c6 : I f 2 = l' := by rw [hrep.2.2.2.2.2.1, hl']
  have c7' : I f 3 = 0 := by rw [hrep.2.2.2.2.2.2, p9]
  have m6 : I (M + 1) 518 = l' := by rw [hP, hl']
  have m9 : I (M + 1) 519 = 0 := by rw [hP, p9]
  by_cases g0 : l' = 0
  · refine zz_read (v := -4) h ?_ ?_ oo
    · have cj : zG (d + 10) 137 [.inr (.inr X)] (S, I, R, T) = some (-4, (S, I, R, T)) := by
        rw [zm_137]
        ((try simp only [zbd_conv]); simp (disch := first | assumption | omega | trivial) only [↓reduceIte, zbd_some, eq_self, Int.reduceEq, Int.reduceLT, Int.reduceLE, and_self, or_true, true_or, or_false, false_or, if_pos, if_neg, if_true, if_false, true_and, and_true, not_true_eq_false, not_false_eq_true, false_and, and_false, Option.bind_some, zq_t, zq_f, zq0, zq1, zw_id, zcl_x1 hc, hf, zfr_k hF, zfr_r0 hF, zfr_r1 hF, zfr_lk hF, zfr_fk hF, zcl_c3 hc, (zcl_sc hc).2.1, c6])
      rw [zm_124]
      ((try simp only [zbd_conv]); simp (disch := first | assumption | omega | trivial) only [↓reduceIte, zbd_some, eq_self, Int.reduceEq, Int.reduceLT, Int.reduceLE, and_self, or_true, true_or, or_false, false_or, if_pos, if_neg, if_true, if_false, true_and, and_true, not_true_eq_false, not_false_eq_true, false_and, and_false, Option.bind_some, zq_t, zq_f, zq0, zq1, zw_id, zcl_x1 hc, hf, zfr_k hF, zfr_r0 hF, zfr_r1 hF, zfr_lk hF, zfr_fk hF, zcl_c3 hc, (zcl_sc hc).2.1, c7', cj])
    · rw [zm_221]
      ((try simp only [zbd_conv]); simp (disch := first | assumption | omega | trivial) only [↓reduceIte, zbd_some, eq_self, Int.reduceEq, Int.reduceLT, Int.reduceLE, and_self, or_true, true_or, or_false, false_or, if_pos, if_neg, if_true, if_false, true_and, and_true, not_true_eq_false, not_false_eq_true, false_and, and_false, Option.bind_some, zq_t, zq_f, zq0, zq1, zw_id, zmo_1 hm, zmo_r0 hm, zmo_s1 hm, m9, m6])
  · obtain ⟨l, hl⟩ : ∃ l, l' - 1 = l := ⟨_, rfl⟩
    obtain ⟨n, hn⟩ : ∃ n, P (1 + l) = n := ⟨_, rfl⟩
    obtain ⟨o, ho⟩ : ∃ o, P (1 + (l + 1)) = o := ⟨_, rfl⟩
    obtain ⟨m, hm0⟩ : ∃ m, P 0 = m := ⟨_, rfl⟩
    obtain ⟨N, hN⟩ : ∃ N, P 493 = N := ⟨_, rfl⟩
    have wn := hwf.2.1 l (by omega) (by omega)
    have wo := hwf.2.1 (l + 1) (by omega) (by omega)
    have wN := hwf.2.2.1
    rw [hn] at wn
    rw [ho] at wo
    rw [hm0] at w0 w6
    rw [hN] at wN
    have zl : zi_w (l' - 1) = l := by rw [zw_id (by omega) (by omega), hl]
    have mc8 : I (M + 1) 493 ≤ 8 := by rw [hP, hN]; exact wN.2
    have len0 := fun d => zzc_length (d := d) (T := T) hF hrep hwf (l := l) (by omega)
    have len1 := fun d => zzc_length (d := d) (T := T) hF hrep hwf (l := l + 1) (by omega)
    simp only [hn, ho] at len0 len1
    by_cases gh : zt_hid P l
    · refine zz_read (v := -2) h ?_ ?_ oo
      · have cj : zG (d + 10) 137 [.inr (.inr X)] (S, I, R, T) = some (-2, (S, I, R, T)) := by
          rw [zm_137]
          ((try simp only [zbd_conv]); simp (disch := first | assumption | omega | trivial) only [↓reduceIte, zbd_some, eq_self, Int.reduceEq, Int.reduceLT, Int.reduceLE, and_self, or_true, true_or, or_false, false_or, if_pos, if_neg, if_true, if_false, true_and, and_true, not_true_eq_false, not_false_eq_true, false_and, and_false, Option.bind_some, zq_t, zq_f, zq0, zq1, zw_id, zcl_x1 hc, hf, zfr_k hF, zfr_r0 hF, zfr_r1 hF, zfr_lk hF, zfr_fk hF, zcl_c3 hc, (zcl_sc hc).2.1, c6, hl, zzc_hides hF hrep hwf])
        rw [zm_124]
        ((try simp only [zbd_conv]); simp (disch := first | assumption | omega | trivial) only [↓reduceIte, zbd_some, eq_self, Int.reduceEq, Int.reduceLT, Int.reduceLE, and_self, or_true, true_or, or_false, false_or, if_pos, if_neg, if_true, if_false, true_and, and_true, not_true_eq_false, not_false_eq_true, false_and, and_false, Option.bind_some, zq_t, zq_f, zq0, zq1, zw_id, zcl_x1 hc, hf, zfr_k hF, zfr_r0 hF, zfr_r1 hF, zfr_lk hF, zfr_fk hF, zcl_c3 hc, (zcl_sc hc).2.1, c7', cj])
      · have nh : zt_hid (I (M + 1)) l := by rw [hP]; exact gh
        have mj : zG (d + 10) 220 [.inr (.inr M)] (S, I, R, T) = some (-2, (S, I, R, T)) := by
          rw [zm_220]
          ((try simp only [zbd_conv]); simp (disch := first | assumption | omega | trivial) only [↓reduceIte, zbd_some, eq_self, Int.reduceEq, Int.reduceLT, Int.reduceLE, and_self, or_true, true_or, or_false, false_or, if_pos, if_neg, if_true, if_false, true_and, and_true, not_true_eq_false, not_false_eq_true, false_and, and_false, Option.bind_some, zq_t, zq_f, zq0, zq1, zw_id, zmo_1 hm, zmo_r0 hm, zmo_s1 hm, m6, hl, zy_isHidden hm mc8, nh])
        rw [zm_221]
        ((try simp only [zbd_conv]); simp (disch := first | assumption | omega | trivial) only [↓reduceIte, zbd_some, eq_self, Int.reduceEq, Int.reduceLT, Int.reduceLE, and_self, or_true, true_or, or_false, false_or, if_pos, if_neg, if_true, if_false, true_and, and_true, not_true_eq_false, not_false_eq_true, false_and, and_false, Option.bind_some, zq_t, zq_f, zq0, zq1, zw_id, zmo_1 hm, zmo_r0 hm, zmo_s1 hm, m9, m6, mj])
    · by_cases gm : n + o ≤ 40
      · obtain ⟨J1, R', g, e1, hc', hm', hf', hg, r1, r2, rp, rse⟩ := zz_rem (d := d + 3) (T := T) h hf
        have hF' := zcl_fr hc' hf'
        have log := zs_fa_lo hg.1
        rw [hP] at rp
        have v2 := rp.2.1
        rw [hm0] at v2
        have ef : f + 1 + 1 = f + 2 := by omega
        have wl := hwf.2.1
        rw [hm0] at wl
        obtain ⟨Jd, s1, s2⟩ := zx_joinWithNext (d := d + 3) (I := J1) (T := T) (zfr_li hF') (m := m) (l := l) (by rw [rp.1, hm0]) (by omega) (fun r r1 r2 => by rw [ef, v2 r r1 r2]; exact wl r r1 r2) (by rw [ef, v2 l (by omega) (by omega), v2 (l + 1) (by omega) (by omega), hn, ho]; exact gm)
        have jd4 : ∀ q, f + 4 ≤ q → Jd q = J1 q := fun q hq => s2.1 q (by omega)
        have w4 := hwf.2.2.2.1
        have w5 := hwf.2.2.2.2.1
        rw [hN, hm0] at w4
        rw [hN] at w5
        have v5 := rp.2.2.2.2.1
        rw [hN] at v5
        obtain ⟨F, hFF⟩ : ∃ F : zI, F = fun i j => Jd (f + 4 + i) j := ⟨_, rfl⟩
        have F1 : ∀ j, 0 ≤ j → j < N → F 1 j = P (494 + 3 * j) ∧ F 2 j = P (495 + 3 * j) ∧ F 3 j = P (496 + 3 * j) := fun j j1 j2 => by
          have a := v5 j j1 j2
          rw [hFF]
          dsimp only
          rw [jd4 _ (by omega), jd4 _ (by omega), jd4 _ (by omega), show f + 4 + 1 = f + 5 by omega, show f + 4 + 2 = f + 6 by omega, show f + 4 + 3 = f + 7 by omega]
          exact a
        obtain ⟨Jf, t1, t2⟩ := zx_followJoin (d := d + 5) (I := Jd) (T := T) (l := l) (zfr_fo hF') hFF (n := N) (by rw [jd4 _ (by omega), rp.2.2.2.1, hN]) wN (fun j j1 j2 => by
          have a := v5 j j1 j2
          have b := w4 j j1 j2
          rw [jd4 _ (by omega), jd4 _ (by omega), show f + 4 + 1 = f + 5 by omega, show f + 4 + 2 = f + 6 by omega, a.1, a.2.1]
          omega)
        have hFb : ∀ j, 0 ≤ j → j < N → (0 ≤ F 1 j ∧ F 1 j < F 2 j ∧ F 2 j < m) ∧ 0 ≤ F 3 j ∧ F 3 j ≤ 1 := fun j j1 j2 => by
          obtain ⟨a1, a2, a3⟩ := F1 j j1 j2
          rw [a1, a2, a3]; exact w4 j j1 j2
        have hFn : ∀ j k, 0 ≤ j → j < k → k < N → zf_nest (F 1 j) (F 2 j) (F 1 k) (F 2 k) := fun j k j1 j2 j3 => by
          obtain ⟨a1, a2, -⟩ := F1 j j1 (by omega)
          obtain ⟨b1, b2, -⟩ := F1 k (by omega) j3
          rw [a1, a2, b1, b2]; exact w5 j k j1 j2 j3
        have gd := zj_gd_fold (m := m) hFb hFn (l := l) (by omega) N.toNat (by omega)
        rw [show ((N.toNat : Nat) : Int) = N by omega] at gd
        have fc := zj_fold_c (F := F) (l := l) N.toNat
        obtain ⟨Q2, hQ2⟩ : ∃ Q2, Q2 = zt_jn P l n o m := ⟨_, rfl⟩
        obtain ⟨q0, q1, q2, q3⟩ := zq_jn (P := P) (l := l) (m := m) (n := n) (o := o) (by omega) (by omega) hQ2
        obtain ⟨Qz, rz, jfx⟩ := zy_joinsFolds (d := d + 5) (R := R') (T := T) (Q0 := Q2) hm' hFb hFn (l := l) (by omega) (by rw [q3 _ (by omega), hN]) wN (fun j j1 j2 => by
          obtain ⟨a1, a2, a3⟩ := F1 j j1 j2
          rw [q3 (494 + 3 * j) (by omega), q3 (495 + 3 * j) (by omega), q3 (496 + 3 * j) (by omega), a1, a2, a3]
          exact ⟨rfl, rfl, rfl⟩)
        have rp2z := zv_jn rp hwf hm0 hn ho (by omega) (by omega) hQ2 rz (by omega) s2 t2
        have wp2z : zw_page (zt_up (zt_up Qz 518 l) 519 n) := zw_jn hwf hm0 (by omega) (by omega) hQ2 rz (by omega) gd
        obtain ⟨J2, hJ2⟩ : ∃ J2, J2 = zi_up (zi_up Jf f 2 l) f 3 n := ⟨_, rfl⟩
        rw [← hJ2] at rp2z
        have j2 : ∀ q, (q < f ∨ f + 8 ≤ q) → J2 q = J1 q := fun q q1 => by
          rw [hJ2, zu_off (by omega), zu_off (by omega), ← s2.1 q (by omega)]
          exact t2.1 q (by omega)
        obtain ⟨J, l1, l2⟩ := zz_layall (d := d + 2) (T := T) h hf hc' hf' hg r1 j2 rp2z wp2z
        have jq : ∀ q, X + 300 ≤ q → J q = I q := fun q q1 => by rw [zc_done_q l2 fa q1, j2 q (by omega), r1 q (by omega) (by omega)]
        have jP : J (M + 1) = P := by rw [jq _ (by omega), hP]
        have dn := (zr_done_ir h).1
        obtain ⟨K1, a1, a2, a3, a4, a5, a6⟩ := zy_edits (d := d + 6) (I := J) (T := T) hm' (n := I M 4) (by rw [jq M hap]) dn
        have k1P : K1 (M + 1) = P := by rw [a2 _ (by omega) (by omega), jP]
        obtain ⟨D, jf1⟩ := jfx (zt_row K1 (M + 1) Q2) zt_row_eq
        obtain ⟨L, hL⟩ : ∃ L, L = zt_row (zt_row (zt_row K1 (M + 1) Q2) (M + 2) D) (M + 1) Qz := ⟨_, rfl⟩
        rw [← hL] at jf1
        have Lq : ∀ q, q ≠ M + 1 → q ≠ M + 2 → L q = K1 q := fun q h1 h2 => by rw [hL, zt_row_off h1, zt_row_off h2, zt_row_off h1]
        have LP : L (M + 1) = Qz := by rw [hL, zt_row_eq]
        obtain ⟨K, b1, b2, v', b3⟩ := zz_edit (d := d + 3) (T := T) h hf hc' hm' hf' hg r1 r2 j2 wp2z l2 (fun q q1 q2 _ => a2 q q1 q2) (fun j j1 j2 _ _ => a3 j j1 j2) a4 a5 (by rw [a6, jq _ (by omega), jq _ (by omega)]) (K0 := zi_up (zi_up L (M + 1) 518 l) (M + 1) 519 n) (fun q h1 h2 => by rw [zu_off h1, zu_off h1]; exact Lq q h1 h2) (by rw [zu_row, zu_row, LP])
        have lp := zy_jn1 (d := d + 3) (T := T) (I := K1) (L := L) hm' hm0 (l := l) (n := n) (o := o) (by omega) (by omega) (by rw [← hQ2]; exact jf1) b1 o.toNat 0 19999 (by omega) (by omega) (by omega)
        have e0 : zt_row K1 (M + 1) (zt_jn1 P l n 0) = K1 := by
          rw [← k1P]
          refine Eq.trans (congrArg (zt_row K1 (M + 1)) ?_) zt_row_self
          funext j
          rw [zt_jn1_at, if_neg (by omega)]
        rw [e0] at lp
        have nc8 : J (M + 1) 493 ≤ 8 := by rw [jP, hN]; exact wN.2
        have n6 : J (M + 1) 518 = l' := by rw [jP, hl']
        have n9 : J (M + 1) 519 = 0 := by rw [jP, p9]
        have nn : J (M + 1) (1 + l) = n := by rw [jP, hn]
        have no : J (M + 1) (1 + (l + 1)) = o := by rw [jP, ho]
        have nh : ¬ zt_hid (J (M + 1)) l := by rw [jP]; exact gh
        refine ⟨0, J, R', K, ?_, ?_, b2⟩
        · have cj : zG (d + 10) 137 [.inr (.inr X)] (S, I, R, T) = some (0, (S, J, R', T)) := by
            rw [zm_137]
            ((try simp only [zbd_conv]); simp (disch := first | assumption | omega | trivial) only [↓reduceIte, zbd_some, eq_self, Int.reduceEq, Int.reduceLT, Int.reduceLE, and_self, or_true, true_or, or_false, false_or, if_pos, if_neg, if_true, if_false, true_and, and_true, not_true_eq_false, not_false_eq_true, false_and, and_false, Option.bind_some, zq_t, zq_f, zq0, zq1, zw_id, zcl_x1 hc, hf, zfr_k hF, zfr_r0 hF, zfr_r1 hF, zfr_lk hF, zfr_fk hF, zcl_c3 hc, (zcl_sc hc).2.1, zcl_c0 hc, zcl_c1 hc, zcl_c2 hc, (zcl_hi hc).2.1, hf', zfr_r0 hF', zfr_r1 hF', c6, hl, zzc_hides hF hrep hwf, len0, len1, e1, s1, t1, zwr, ← hJ2, l1])
          rw [zm_124]
          ((try simp only [zbd_conv]); simp (disch := first | assumption | omega | trivial) only [↓reduceIte, zbd_some, eq_self, Int.reduceEq, Int.reduceLT, Int.reduceLE, and_self, or_true, true_or, or_false, false_or, if_pos, if_neg, if_true, if_false, true_and, and_true, not_true_eq_false, not_false_eq_true, false_and, and_false, Option.bind_some, zq_t, zq_f, zq0, zq1, zw_id, zcl_x1 hc, hf, zfr_k hF, zfr_r0 hF, zfr_r1 hF, zfr_lk hF, zfr_fk hF, zcl_c3 hc, (zcl_sc hc).2.1, c7', cj])
        · have mj : zG (d + 10) 220 [.inr (.inr M)] (S, J, R', T) = some (0, (S, K, R', T)) := by
            rw [zm_220]
            ((try simp only [zbd_conv]); simp (disch := first | assumption | omega | trivial) only [↓reduceIte, zbd_some, eq_self, Int.reduceEq, Int.reduceLT, Int.reduceLE, and_self, or_true, true_or, or_false, false_or, if_pos, if_neg, if_true, if_false, true_and, and_true, not_true_eq_false, not_false_eq_true, false_and, and_false, Option.bind_some, zq_t, zq_f, zq0, zq1, zw_id, zmo_1 hm', zmo_r0 hm', zmo_s1 hm', n6, hl, zy_isHidden hm' nc8, nh, zy_len hm', nn, no, a1])
            exact lp
          rw [zm_221]
          ((try simp only [zbd_conv]); simp (disch := first | assumption | omega | trivial) only [↓reduceIte, zbd_some, eq_self, Int.reduceEq, Int.reduceLT, Int.reduceLE, and_self, or_true, true_or, or_false, false_or, if_pos, if_neg, if_true, if_false, true_and, and_true, not_true_eq_false, not_false_eq_true, false_and, and_false, Option.bind_some, zq_t, zq_f, zq0, zq1, zw_id, zmo_1 hm', zmo_r0 hm', zmo_s1 hm', n9, n6, mj])
      · refine zz_read (v := -3) h ?_ ?_ oo
        · have cj : zG (d + 10) 137 [.inr (.inr X)] (S, I, R, T) = some (-3, (S, I, R, T)) := by
            rw [zm_137]
            ((try simp only [zbd_conv]); simp (disch := first | assumption | omega | trivial) only [↓reduceIte, zbd_some, eq_self, Int.reduceEq, Int.reduceLT, Int.reduceLE, and_self, or_true, true_or, or_false, false_or, if_pos, if_neg, if_true, if_false, true_and, and_true, not_true_eq_false, not_false_eq_true, false_and, and_false, Option.bind_some, zq_t, zq_f, zq0, zq1, zw_id, zcl_x1 hc, hf, zfr_k hF, zfr_r0 hF, zfr_r1 hF, zfr_lk hF, zfr_fk hF, zcl_c3 hc, (zcl_sc hc).2.1, c6, hl, zzc_hides hF hrep hwf, len0, len1])
          rw [zm_124]
          ((try simp only [zbd_conv]); simp (disch := first | assumption | omega | trivial) only [↓reduceIte, zbd_some, eq_self, Int.reduceEq, Int.reduceLT, Int.reduceLE, and_self, or_true, true_or, or_false, false_or, if_pos, if_neg, if_true, if_false, true_and, and_true, not_true_eq_false, not_false_eq_true, false_and, and_false, Option.bind_some, zq_t, zq_f, zq0, zq1, zw_id, zcl_x1 hc, hf, zfr_k hF, zfr_r0 hF, zfr_r1 hF, zfr_lk hF, zfr_fk hF, zcl_c3 hc, (zcl_sc hc).2.1, c7', cj])
        · have nh : ¬ zt_hid (I (M + 1)) l := by rw [hP]; exact gh
          have mn : I (M + 1) (1 + l) = n := by rw [hP, hn]
          have mo : I (M + 1) (1 + (l + 1)) = o := by rw [hP, ho]
          have mj : zG (d + 10) 220 [.inr (.inr M)] (S, I, R, T) = some (-3, (S, I, R, T)) := by
            rw [zm_220]
            ((try simp only [zbd_conv]); simp (disch := first | assumption | omega | trivial) only [↓reduceIte, zbd_some, eq_self, Int.reduceEq, Int.reduceLT, Int.reduceLE, and_self, or_true, true_or, or_false, false_or, if_pos, if_neg, if_true, if_false, true_and, and_true, not_true_eq_false, not_false_eq_true, false_and, and_false, Option.bind_some, zq_t, zq_f, zq0, zq1, zw_id, zmo_1 hm, zmo_r0 hm, zmo_s1 hm, m6, hl, zy_isHidden hm mc8, nh, zy_len hm, mn, mo])
          rw [zm_221]
          ((try simp only [zbd_conv]); simp (disch := first | assumption | omega | trivial) only [↓reduceIte, zbd_some, eq_self, Int.reduceEq, Int.reduceLT, Int.reduceLE, and_self, or_true, true_or, or_false, false_or, if_pos, if_neg, if_true, if_false, true_and, and_true, not_true_eq_false, not_false_eq_true, false_and, and_false, Option.bind_some, zq_t, zq_f, zq0, zq1, zw_id, zmo_1 hm, zmo_r0 hm, zmo_s1 hm, m9, m6, mj])
theorem zz_erase (h : zR4 S I R X M) : zz_ok (d + 11) S I R T X M 124 221 [] := by
  by_cases g : 0 < I (M + 1) 519
  · exact zz_erases h g
  · exact zz_joins h g
end ZJo
