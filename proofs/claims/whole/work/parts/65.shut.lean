/-! a fold is shut or opened; a fold is taken off -/
section ZFs
variable {d : Nat} {S : zS} {I J J1 J2 K K0 K1 R R' : zI} {T : Int × Nat} {X M n v l f c k x y z r i p w t m e b g len N o : Int} {P Q s : Int → Int}
theorem zw_shut (hw : zw_page P) (hk : 0 ≤ k ∧ k < P 493) (hv : 0 ≤ v ∧ v ≤ 1) : zw_page (zt_up P (496 + 3 * k) v) := by
  obtain ⟨w1, w2, w3, w4, w5, w6, w7, w8⟩ := hw
  have lo : ∀ j, j ≠ 496 + 3 * k → zt_up P (496 + 3 * k) v j = P j := fun j hj => zt_up_ne hj
  refine ⟨by rw [lo 0 (by omega)]; exact w1, fun l l1 l2 => ?_, by rw [lo 493 (by omega)]; exact w3, fun j j1 j2 => ?_, fun j j' j1 j2 j3 => ?_, by rw [lo 518 (by omega), lo 0 (by omega)]; exact w6, by rw [lo 519 (by omega)]; exact w7, by rw [lo 519 (by omega), lo 518 (by omega), lo _ (by omega)]; exact w8⟩
  · rw [lo 0 (by omega)] at l2
    rw [lo (1 + l) (by omega)]
    exact w2 l l1 l2
  · rw [lo 493 (by omega)] at j2
    have a := w4 j j1 j2
    rw [lo (494 + 3 * j) (by omega), lo (495 + 3 * j) (by omega), lo 0 (by omega)]
    refine ⟨a.1, ?_⟩
    by_cases g : j = k
    · rw [g, zt_up_eq rfl]; exact hv
    · rw [lo _ (by omega)]; exact a.2
  · rw [lo 493 (by omega)] at j3
    rw [lo (494 + 3 * j) (by omega), lo (495 + 3 * j) (by omega), lo (494 + 3 * j') (by omega), lo (495 + 3 * j') (by omega)]
    exact w5 j j' j1 j2 j3
theorem zv_shut (h : zv_rep I f P) (hw : zw_page P) (hk : 0 ≤ k ∧ k < P 493) : zv_rep (zi_up I (f + 7) k v) f (zt_up P (496 + 3 * k) v) := by
  obtain ⟨w1, w2, w3, w4, w5, w6, w7, w8⟩ := hw
  obtain ⟨v1, v2, v3, v4, v5, v6, v7⟩ := h
  have lo : ∀ j, j ≠ 496 + 3 * k → zt_up P (496 + 3 * k) v j = P j := fun j hj => zt_up_ne hj
  refine ⟨by rw [zu_off (by omega), lo 0 (by omega)]; exact v1, fun l l1 l2 => ?_, fun l i l1 l2 i1 i2 => ?_, by rw [zu_off (by omega), lo 493 (by omega)]; exact v4, fun j j1 j2 => ?_, by rw [zu_off (by omega), lo 518 (by omega)]; exact v6, by rw [zu_off (by omega), lo 519 (by omega)]; exact v7⟩
  · rw [lo 0 (by omega)] at l2
    rw [zu_off (by omega), lo (1 + l) (by omega)]
    exact v2 l l1 l2
  · rw [lo 0 (by omega)] at l2
    rw [lo (1 + l) (by omega)] at i2
    have := w2 l l1 l2
    rw [zu_off (by omega), lo _ (by omega)]
    exact v3 l i l1 l2 i1 i2
  · rw [lo 493 (by omega)] at j2
    obtain ⟨a1, a2, a3⟩ := v5 j j1 j2
    rw [zu_off (by omega), zu_off (by omega), lo (494 + 3 * j) (by omega), lo (495 + 3 * j) (by omega)]
    refine ⟨a1, a2, ?_⟩
    by_cases g : j = k
    · rw [zu_eq ⟨rfl, g⟩, g, zt_up_eq rfl]
    · rw [zu_ne (by omega), lo _ (by omega)]; exact a3
theorem zz_shut (h : zR4 S I R X M) : zz_ok (d + 11) S I R T X M 129 228 [.inl k, .inl v] := by
  obtain ⟨hc, hm, hap, hall⟩ := id h
  have oo : zo_ly I I M := zo_ly_refl
  have M0 := hm.1.1
  obtain ⟨⟨hrep, hwf⟩, -⟩ := zR4_facts h
  obtain ⟨f, hf⟩ : ∃ f, R X 6 = f := ⟨_, rfl⟩
  rw [hf] at hrep
  have hF := zcl_fr hc hf
  have lo := zs_fa_lo (zcl_fa6 hc hf)
  have w0 := hwf.1
  have wN := hwf.2.2.1
  have w6 := hwf.2.2.2.2.2
  obtain ⟨N, hN⟩ : ∃ N, I (M + 1) 493 = N := ⟨_, rfl⟩
  by_cases gk : 0 ≤ k ∧ k < I (M + 1) 493
  · have wk := hwf.2.2.2.1 k gk.1 gk.2
    by_cases gv : 0 ≤ v ∧ v ≤ 1
    · -- the flip, on both sides
      obtain ⟨P, hP⟩ : ∃ P, P = zt_up (I (M + 1)) (496 + 3 * k) v := ⟨_, rfl⟩
      obtain ⟨I1, hI1⟩ : ∃ I1, I1 = zi_up I (f + 7) k v := ⟨_, rfl⟩
      have rp1 : zv_rep I1 f P := by rw [hI1, hP]; exact zv_shut hrep hwf gk
      have wp1 : zw_page P := by rw [hP]; exact zw_shut hwf gk gv
      have i1 : ∀ q, q ≠ f + 7 → I1 q = I q := fun q hq => by rw [hI1]; exact zu_off hq
      have P8 : P 518 = I (M + 1) 518 := by rw [hP]; exact zt_up_ne (by omega)
      have P0 : P 0 = I (M + 1) 0 := by rw [hP]; exact zt_up_ne (by omega)
      have PN : P 493 = I (M + 1) 493 := by rw [hP]; exact zt_up_ne (by omega)
      have Pk : P (494 + 3 * k) = I (M + 1) (494 + 3 * k) := by rw [hP]; exact zt_up_ne (by omega)
      have hz : zR4 S (zt_row I1 (M + 1) P) R X M := zR4_page h hf (fun q q1 q2 => by rw [zt_row_off (by omega), i1 q (by omega)]) (fun q q1 q2 => by rw [zt_row_off q2, i1 q (by omega)]) zt_row_eq (zv_rep_congr rp1 (fun q q1 q2 => zt_row_off (by omega))) wp1 (fun j j1 j2 => by rw [hP]; exact zt_up_ne (by omega))
      have ss := fun d => zx_setShut (d := d) (I := I) (T := T) (l := k) (v := v) (zfr_fo hF)
      simp only [zk_pt_in (show 0 ≤ k ∧ k < 8 by omega), show f + 4 + 3 = f + 7 by omega, ← hI1] at ss
      have c6 : I1 f 2 = I (M + 1) 518 := by rw [rp1.2.2.2.2.2.1, P8]
      have sc := fun d => zzc_isShut (d := d) (T := T) (k := k) hF hrep hwf gk
      obtain ⟨u, hu⟩ : ∃ u, zq (I (M + 1) (496 + 3 * k) = 1) = u := ⟨_, rfl⟩
      have u01 : u = 0 ∨ u = 1 := by
        rw [← hu]
        by_cases q : I (M + 1) (496 + 3 * k) = 1
        · exact Or.inr (zq_t q)
        · exact Or.inl (zq_f q)
      simp only [hu] at sc
      -- the class, to its cut
      have cut : ∀ (J : zI) (r' : zR), (∀ w', zi_run zt_129 (zG (d + 10)) (w' + 1) 40 [some (.inr (.inr X)), some (.inl k), some (.inl v), some (.inr (.inr (f + 4))), none] [.inl u] (S, I, R, T) = r') → zG (d + 11) 129 [.inr (.inr X), .inl k, .inl v] (S, I, R, T) = r' := fun J r' hr => by
        rw [zm_129]
        rcases (show v = 0 ∨ v = 1 by omega) with e | e <;> subst e <;> rcases u01 with e2 | e2 <;> subst e2
        · ((try simp only [zbd_conv]); simp (disch := first | assumption | omega | trivial) only [↓reduceIte, zbd_some, eq_self, Int.reduceEq, Int.reduceLT, Int.reduceLE, and_self, or_true, true_or, or_false, false_or, if_pos, if_neg, if_true, if_false, true_and, and_true, not_true_eq_false, not_false_eq_true, false_and, and_false, Option.bind_some, zq_t, zq_f, zq0, zq1, zw_id, zcl_x1 hc, hf, zfr_k hF, zfr_r0 hF, zfr_r1 hF, zfr_lk hF, zfr_fk hF, zcl_c3 hc, (zcl_sc hc).2.1, zzc_Fhas hF hrep, sc])
          exact hr 19998
        · ((try simp only [zbd_conv]); simp (disch := first | assumption | omega | trivial) only [↓reduceIte, zbd_some, eq_self, Int.reduceEq, Int.reduceLT, Int.reduceLE, and_self, or_true, true_or, or_false, false_or, if_pos, if_neg, if_true, if_false, true_and, and_true, not_true_eq_false, not_false_eq_true, false_and, and_false, Option.bind_some, zq_t, zq_f, zq0, zq1, zw_id, zcl_x1 hc, hf, zfr_k hF, zfr_r0 hF, zfr_r1 hF, zfr_lk hF, zfr_fk hF, zcl_c3 hc, (zcl_sc hc).2.1, zzc_Fhas hF hrep, sc])
          exact hr 19998
        · ((try simp only [zbd_conv]); simp (disch := first | assumption | omega | trivial) only [↓reduceIte, zbd_some, eq_self, Int.reduceEq, Int.reduceLT, Int.reduceLE, and_self, or_true, true_or, or_false, false_or, if_pos, if_neg, if_true, if_false, true_and, and_true, not_true_eq_false, not_false_eq_true, false_and, and_false, Option.bind_some, zq_t, zq_f, zq0, zq1, zw_id, zcl_x1 hc, hf, zfr_k hF, zfr_r0 hF, zfr_r1 hF, zfr_lk hF, zfr_fk hF, zcl_c3 hc, (zcl_sc hc).2.1, zzc_Fhas hF hrep, sc])
          exact hr 19998
        · ((try simp only [zbd_conv]); simp (disch := first | assumption | omega | trivial) only [↓reduceIte, zbd_some, eq_self, Int.reduceEq, Int.reduceLT, Int.reduceLE, and_self, or_true, true_or, or_false, false_or, if_pos, if_neg, if_true, if_false, true_and, and_true, not_true_eq_false, not_false_eq_true, false_and, and_false, Option.bind_some, zq_t, zq_f, zq0, zq1, zw_id, zcl_x1 hc, hf, zfr_k hF, zfr_r0 hF, zfr_r1 hF, zfr_lk hF, zfr_fk hF, zcl_c3 hc, (zcl_sc hc).2.1, zzc_Fhas hF hrep, sc])
          exact hr 19998
      have mcut : ∀ (J : zI) (r' : zR), J (M + 1) = I (M + 1) → (∀ w', zi_run zt_228 (zG (d + 10)) (w' + 1) 33 [some (.inr (.inr M)), some (.inl k), some (.inl v), none] [.inl u] (S, J, R, T) = r') → zG (d + 11) 228 [.inr (.inr M), .inl k, .inl v] (S, J, R, T) = r' := fun J r' hJ hr => by
        have fo := fun d => zy_isFold (d := d) (I := J) (T := T) (k := k) hm (N := N) (by rw [hJ, hN]) (by omega)
        have ish := fun d => zy_isShut (d := d) (I := J) (T := T) (k := k) hm (by omega)
        simp only [hJ, hu] at ish
        rw [zm_228]
        rcases u01 with e2 | e2 <;> subst e2
        · ((try simp only [zbd_conv]); simp (disch := first | assumption | omega | trivial) only [↓reduceIte, zbd_some, eq_self, Int.reduceEq, Int.reduceLT, Int.reduceLE, and_self, or_true, true_or, or_false, false_or, if_pos, if_neg, if_true, if_false, true_and, and_true, not_true_eq_false, not_false_eq_true, false_and, and_false, Option.bind_some, zq_t, zq_f, zq0, zq1, zw_id, zmo_1 hm, fo, zy_in, ish])
          exact hr 19998
        · ((try simp only [zbd_conv]); simp (disch := first | assumption | omega | trivial) only [↓reduceIte, zbd_some, eq_self, Int.reduceEq, Int.reduceLT, Int.reduceLE, and_self, or_true, true_or, or_false, false_or, if_pos, if_neg, if_true, if_false, true_and, and_true, not_true_eq_false, not_false_eq_true, false_and, and_false, Option.bind_some, zq_t, zq_f, zq0, zq1, zw_id, zmo_1 hm, fo, zy_in, ish])
          exact hr 19998
      by_cases gh : zt_hid P (I (M + 1) 518)
      · -- the caret goes to the first line of the fold
        obtain ⟨l, hl⟩ : ∃ l, I (M + 1) (494 + 3 * k) = l := ⟨_, rfl⟩
        have fc := zzc_firstOf (d := d + 8) (T := T) (I := I1) hF rp1 wp1 (k := k) (by rw [PN]; exact gk)
        rw [Pk, hl] at fc
        have hll : 0 ≤ l ∧ l < I (M + 1) 0 := by omega
        have mv := zx_mv (d := d + 6) (I := I1) (T := T) hc hf (l := l) (p := 0) (by omega) (by omega)
        obtain ⟨c, hcc⟩ : ∃ c, I1 (X + 135 + 11 + 9 * l + 2) 0 = c := ⟨_, rfl⟩
        rw [hcc] at mv
        obtain ⟨J, hJ⟩ : ∃ J, J = zp_mv I1 X f l 0 c := ⟨_, rfl⟩
        rw [← hJ] at mv
        have jM : ∀ q, M ≤ q → J q = I q := fun q q1 => by rw [hJ, zp_mv_off (by omega) (by omega), i1 q (by omega)]
        obtain ⟨Z, hZ⟩ : ∃ Z, Z = zt_row I1 (M + 1) P := ⟨_, rfl⟩
        rw [← hZ] at hz
        have zP : Z (M + 1) = P := by rw [hZ, zt_row_eq]
        have zq' : ∀ q, q ≠ M + 1 → Z q = I1 q := fun q hq => by rw [hZ, zt_row_off hq]
        obtain ⟨⟨zr, zw⟩, zst, zmo, zse, zlay, -⟩ := zR4_facts hz
        have pv : zr_pic Z M (X + 135 + 11 + 9 * l) l := zlay l hll.1 (by rw [zP, P0]; exact hll.2)
        have nv := zw.2.1 l hll.1 (by rw [zP, P0]; exact hll.2)
        have st : Z (X + 135 + 11 + 9 * l + 5) 0 = 1 := by
          rw [pv.2.2.2.1 0 (by omega) nv.1]; exact zq_t (Or.inl rfl)
        have zc2 : Z (X + 135 + 11 + 9 * l + 2) 0 = c := by rw [zq' _ (by omega), hcc]
        obtain ⟨K, s1, -, s3⟩ := zz_mvfin (d := d + 4) (T := T) hz hf (l := l) (p := 0) (by rw [zP, P0]; exact hll) ⟨by omega, nv.1⟩ st (K0 := zp_mv Z X f l 0 c) (K1 := zi_up (zi_up (zi_up J (M + 1) (496 + 3 * k) v) (M + 1) 518 l) (M + 1) 519 0) (by rw [zc2]; exact zo_ly_refl) (by rw [zu_row, zu_row, zu_row, zP, jM _ (by omega), ← hP]) (fun q hq => by
          rw [zu_off hq, zu_off hq, zu_off hq, hJ]
          by_cases e1 : q = X
          · rw [e1]
            funext j
            by_cases e2 : j = 8
            · rw [e2, zp_mv_8, zp_mv_8]
            · rw [zp_mv_X (by omega) e2, zp_mv_X (by omega) e2, zq' X (by omega)]
          · by_cases e2 : q = f
            · rw [e2, zp_mv_f (by omega), zp_mv_f (by omega)]
              funext j
              rw [zi_up_at, zi_up_at, zi_up_at, zi_up_at, zq' f (by omega)]
            · rw [zp_mv_off e1 e2, zp_mv_off e1 e2, zq' q hq])
        refine ⟨u, J, R, K, cut J _ (fun w' => ?_), mcut J _ (jM _ (by omega)) (fun w' => ?_), s3⟩
        · rw [zk_129_40]
          ((try simp only [zbd_conv]); simp (disch := first | assumption | omega | trivial) only [↓reduceIte, zbd_some, eq_self, Int.reduceEq, Int.reduceLT, Int.reduceLE, and_self, or_true, true_or, or_false, false_or, if_pos, if_neg, if_true, if_false, true_and, and_true, not_true_eq_false, not_false_eq_true, false_and, and_false, Option.bind_some, zq_t, zq_f, zq0, zq1, zw_id, zcl_x1 hc, hf, zfr_k hF, zfr_r0 hF, zfr_r1 hF, zfr_lk hF, zfr_fk hF, zcl_c3 hc, (zcl_sc hc).2.1, ss, c6, zzc_hides hF rp1 wp1, gh, fc, mv])
        · have g1 : zi_up J (M + 1) (496 + 3 * k) v (M + 1) = P := by rw [zu_row, jM _ (by omega), ← hP]
          have hid := zy_isHidden (d := d + 8) (I := zi_up J (M + 1) (496 + 3 * k) v) (T := T) (l := I (M + 1) 518) hm (by rw [g1, PN]; omega)
          rw [g1] at hid
          have fi := zy_firstOf (d := d + 9) (I := zi_up J (M + 1) (496 + 3 * k) v) (T := T) (k := k) hm (by omega)
          rw [g1, Pk, hl] at fi
          have e6 : 494 + 3 * k + 2 = 496 + 3 * k := by omega
          have p8 : zi_up J (M + 1) (496 + 3 * k) v (M + 1) 518 = I (M + 1) 518 := by rw [g1, P8]
          rw [zk_228_33]
          ((try simp only [zbd_conv]); simp (disch := first | assumption | omega | trivial) only [↓reduceIte, zbd_some, eq_self, Int.reduceEq, Int.reduceLT, Int.reduceLE, and_self, or_true, true_or, or_false, false_or, if_pos, if_neg, if_true, if_false, true_and, and_true, not_true_eq_false, not_false_eq_true, false_and, and_false, Option.bind_some, zq_t, zq_f, zq0, zq1, zw_id, zmo_1 hm, zmo_r0 hm, zmo_s1 hm, e6, zwr, p8, hid, gh, fi, s1])
      · refine ⟨u, I1, R, zt_row I1 (M + 1) P, cut I1 _ (fun w' => ?_), mcut I1 _ (i1 _ (by omega)) (fun w' => ?_), hz⟩
        · rw [zk_129_40]
          ((try simp only [zbd_conv]); simp (disch := first | assumption | omega | trivial) only [↓reduceIte, zbd_some, eq_self, Int.reduceEq, Int.reduceLT, Int.reduceLE, and_self, or_true, true_or, or_false, false_or, if_pos, if_neg, if_true, if_false, true_and, and_true, not_true_eq_false, not_false_eq_true, false_and, and_false, Option.bind_some, zq_t, zq_f, zq0, zq1, zw_id, zcl_x1 hc, hf, zfr_k hF, zfr_r0 hF, zfr_r1 hF, zfr_lk hF, zfr_fk hF, zcl_c3 hc, (zcl_sc hc).2.1, ss, c6, zzc_hides hF rp1 wp1, gh])
        · have g1 : zi_up I1 (M + 1) (496 + 3 * k) v (M + 1) = P := by rw [zu_row, i1 _ (by omega), ← hP]
          have g2 : zi_up I1 (M + 1) (496 + 3 * k) v = zt_row I1 (M + 1) P := by rw [zt_row_up0, i1 _ (by omega), ← hP]
          have hid := zy_isHidden (d := d + 8) (I := zi_up I1 (M + 1) (496 + 3 * k) v) (T := T) (l := I (M + 1) 518) hm (by rw [g1, PN]; omega)
          rw [g1] at hid
          have e6 : 494 + 3 * k + 2 = 496 + 3 * k := by omega
          have p8 : zi_up I1 (M + 1) (496 + 3 * k) v (M + 1) 518 = I (M + 1) 518 := by rw [g1, P8]
          rw [zk_228_33]
          ((try simp only [zbd_conv]); simp (disch := first | assumption | omega | trivial) only [↓reduceIte, zbd_some, eq_self, Int.reduceEq, Int.reduceLT, Int.reduceLE, and_self, or_true, true_or, or_false, false_or, if_pos, if_neg, if_true, if_false, true_and, and_true, not_true_eq_false, not_false_eq_true, false_and, and_false, Option.bind_some, zq_t, zq_f, zq0, zq1, zw_id, zmo_1 hm, zmo_r0 hm, zmo_s1 hm, e6, zwr, p8, hid, gh])
          rw [g2]
    · refine zz_read (v := -1) h ?_ ?_ oo
      · rw [zm_129]
        ((try simp only [zbd_conv]); simp (disch := first | assumption | omega | trivial) only [↓reduceIte, zbd_some, eq_self, Int.reduceEq, Int.reduceLT, Int.reduceLE, and_self, or_true, true_or, or_false, false_or, if_pos, if_neg, if_true, if_false, true_and, and_true, not_true_eq_false, not_false_eq_true, false_and, and_false, Option.bind_some, zq_t, zq_f, zq0, zq1, zw_id, zcl_x1 hc, hf, zfr_k hF, zfr_r0 hF, zfr_r1 hF, zfr_lk hF, zfr_fk hF, zcl_c3 hc, (zcl_sc hc).2.1, zzc_Fhas hF hrep])
      · have fo := fun d => zy_isFold (d := d) (I := I) (T := T) (k := k) hm (N := N) hN (by omega)
        rw [zm_228]
        ((try simp only [zbd_conv]); simp (disch := first | assumption | omega | trivial) only [↓reduceIte, zbd_some, eq_self, Int.reduceEq, Int.reduceLT, Int.reduceLE, and_self, or_true, true_or, or_false, false_or, if_pos, if_neg, if_true, if_false, true_and, and_true, not_true_eq_false, not_false_eq_true, false_and, and_false, Option.bind_some, zq_t, zq_f, zq0, zq1, zw_id, zmo_1 hm, fo, zy_in])
  · refine zz_read (v := -1) h ?_ ?_ oo
    · rw [zm_129]
      ((try simp only [zbd_conv]); simp (disch := first | assumption | omega | trivial) only [↓reduceIte, zbd_some, eq_self, Int.reduceEq, Int.reduceLT, Int.reduceLE, and_self, or_true, true_or, or_false, false_or, if_pos, if_neg, if_true, if_false, true_and, and_true, not_true_eq_false, not_false_eq_true, false_and, and_false, Option.bind_some, zq_t, zq_f, zq0, zq1, zw_id, zcl_x1 hc, hf, zfr_k hF, zfr_r0 hF, zfr_r1 hF, zfr_lk hF, zfr_fk hF, zcl_c3 hc, (zcl_sc hc).2.1, zzc_Fhas hF hrep])
    · have fo := fun d => zy_isFold (d := d) (I := I) (T := T) (k := k) hm (N := N) hN (by omega)
      rw [zm_228]
      ((try simp only [zbd_conv]); simp (disch := first | assumption | omega | trivial) only [↓reduceIte, zbd_some, eq_self, Int.reduceEq, Int.reduceLT, Int.reduceLE, and_self, or_true, true_or, or_false, false_or, if_pos, if_neg, if_true, if_false, true_and, and_true, not_true_eq_false, not_false_eq_true, false_and, and_false, Option.bind_some, zq_t, zq_f, zq0, zq1, zw_id, zmo_1 hm, fo])
end ZFs
