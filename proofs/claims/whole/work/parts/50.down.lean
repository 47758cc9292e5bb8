/-! the caret goes: down -/
theorem zw64_id {x : Int} (h1 : -9223372036854775808 ≤ x) (h2 : x < 9223372036854775808) : zi_w64 x = x := by
  unfold zi_w64
  omega
section ZMz
variable {d : Nat} {S : zS} {I J K R : zI} {T : Int × Nat} {X M n v l f c k x y z r i p w t m e : Int} {P Q rz : Int → Int}
theorem zt_total (hk : zl_rows P w t m e rz) (hw : zw_page P) : 1 ≤ zk_sm (zt_vis P rz) (P 0) ∧ zk_sm (zt_vis P rz) (P 0) ≤ 492 := by
  have h0 := hw.1
  have hs := zt_sm_ir (l := P 0) hk hw.2.1 ⟨by omega, Int.le_refl _⟩
  have hm := zk_sm_mono (g := zt_vis P rz) (n := 1) (m := P 0) (by omega) (by omega) (fun k k1 k2 => (zt_vis_ir hk ⟨k1, k2⟩ (hw.2.1 k k1 k2).2).1)
  have h1 := zk_smS (g := zt_vis P rz) (n := 0) (by omega)
  rw [zk_sm0 (show (0 : Int) ≤ 0 by omega)] at h1
  have nh : ¬ zt_hid P 0 := by
    rintro ⟨k, ⟨k1, k2⟩, k3, k4, k5⟩
    have := (hw.2.2.2.1 k k1 k2).1
    omega
  rw [zt_vis_f nh] at h1
  have hr := zl_rows_ir (l := 0) hk (by omega) (hw.2.1 0 (by omega) (by omega)).2
  rw [show (0 : Int) + 1 = 1 by omega] at h1
  omega
theorem zzm_down58 (hm : zs_mo S R M) {Kb Kc Kd Ke : zI} {b : Int} {w' : Nat} (h1 : zG (d + 10) 185 [.inr (.inr M), .inl r] (S, Kb, R, T) = some (v, (S, Kc, R, T))) (h2 : zG (d + 10) 183 [.inr (.inr M), .inl v] (S, Kc, R, T) = some (b, (S, Kd, R, T))) (h3 : zG (d + 10) 180 [.inr (.inr M), .inl v] (S, Kd, R, T) = some (0, (S, Ke, R, T))) (h4 : zi_up Ke (M + 1) 518 v M 10 = c) (h5 : zG (d + 10) 199 [.inr (.inr M), .inl v, .inl (r - b), .inl c] (S, zi_up Ke (M + 1) 518 v, R, T) = some (p, (S, zi_up Ke (M + 1) 518 v, R, T))) (hb : 0 ≤ r ∧ r ≤ 1000) (hb2 : 0 ≤ b ∧ b ≤ 1000) : zi_run zt_210 (zG (d + 10)) (w' + 1) 58 [some (.inr (.inr M)), none, none, none, none, none, none, none] [.inl r] (S, Kb, R, T) = some (r, (S, zi_up (zi_up Ke (M + 1) 518 v) (M + 1) 519 p, R, T)) := by
  rw [zk_210_58]
  ((try simp only [zbd_conv]); simp (disch := first | assumption | omega | trivial) only [↓reduceIte, zbd_some, eq_self, Int.reduceEq, Int.reduceLT, Int.reduceLE, and_self, or_true, true_or, or_false, false_or, if_pos, if_neg, if_true, if_false, true_and, and_true, not_true_eq_false, not_false_eq_true, false_and, and_false, Option.bind_some, zq_t, zq_f, zq0, zq1, zw_id, zmo_1 hm, zmo_r0 hm, zmo_s1 hm, h1, h2, h3, zwr, h4, h5])
theorem zz_down (h : zR4 S I R X M) (hni : zi_ir n) : zz_ok (d + 11) S I R T X M 121 210 [.inl n] := by
  obtain ⟨hc, hm, hap, hall⟩ := id h
  obtain ⟨⟨hrep, hwf⟩, -, hmo, -, hlay, hrz, hnum, -⟩ := zR4_facts h
  obtain ⟨f, hf⟩ : ∃ f, R X 6 = f := ⟨_, rfl⟩
  rw [hf] at hrep
  have hF := zcl_fr hc hf
  have lof := zs_fa_lo (zcl_fa6 hc hf)
  have h0 := hwf.1
  have oo : zo_ly I I M := zo_ly_refl
  obtain ⟨w6, w7, w8⟩ := hwf.2.2.2.2.2
  have hnl := hwf.2.1 _ w6.1 w6.2
  have hw4 := hmo.1
  have pic0 : zr_pic I M (X + 135 + 11 + 9 * I (M + 1) 518) (I (M + 1) 518) := hlay _ w6.1 w6.2
  have hii := zz_ind (n := I (M + 1) (1 + I (M + 1) 518)) (l := I (M + 1) 518) hmo
  have prow := zl_pic_row pic0 hnl hmo.2.1 (by omega) ⟨w7, w8⟩
  have ccr := zzc_caretRow (d := d + 4) (I := I) (T := T) hc hf hrep hwf hrz (by omega)
  have sb := zt_sm_ir (l := I (M + 1) 518) hrz hwf.2.1 ⟨w6.1, by omega⟩
  obtain ⟨cr, hcr⟩ : ∃ cr, cr = zk_sm (zt_vis (I (M + 1)) (zr_rz I X)) (I (M + 1) 518) + I (X + 135 + 11 + 9 * I (M + 1) 518 + 1) (I (M + 1) 519) := ⟨_, rfl⟩
  have crb : 0 ≤ cr ∧ cr ≤ 600 := by omega
  rw [← hcr] at ccr
  obtain ⟨n1, n2⟩ := hni
  by_cases g : 2147483647 < cr + n
  · obtain ⟨K, a1, a2⟩ := zzm_caretRow (d := d + 2) (I := I) (T := T) hm hmo hwf hrz pic0
    rw [← hcr] at a1
    refine zz_read (v := -3) h ?_ (K := K) ?_ a2
    · rw [zm_121]
      ((try simp only [zbd_conv]); simp (disch := first | assumption | omega | trivial) only [↓reduceIte, zbd_some, eq_self, Int.reduceEq, Int.reduceLT, Int.reduceLE, and_self, or_true, true_or, or_false, false_or, if_pos, if_neg, if_true, if_false, true_and, and_true, not_true_eq_false, not_false_eq_true, false_and, and_false, Option.bind_some, zq_t, zq_f, zq0, zq1, zw_id, zcl_x1 hc, hf, zfr_k hF, zfr_r0 hF, zfr_r1 hF, zfr_lk hF, zfr_fk hF, zcl_c3 hc, (zcl_sc hc).2.1, ccr, zw64_id])
    · rw [zm_210]
      ((try simp only [zbd_conv]); simp (disch := first | assumption | omega | trivial) only [↓reduceIte, zbd_some, eq_self, Int.reduceEq, Int.reduceLT, Int.reduceLE, and_self, or_true, true_or, or_false, false_or, if_pos, if_neg, if_true, if_false, true_and, and_true, not_true_eq_false, not_false_eq_true, false_and, and_false, Option.bind_some, zq_t, zq_f, zq0, zq1, zw_id, zmo_1 hm, zmo_r0 hm, zmo_s1 hm, a1, zw64_id, zy_in])
  · obtain ⟨tt, htt⟩ : ∃ tt, tt = zk_sm (zt_vis (I (M + 1)) (zr_rz I X)) (I (M + 1) 0) := ⟨_, rfl⟩
    have tb := zt_total hrz hwf
    rw [← htt] at tb
    obtain ⟨r, hr⟩ : ∃ r, r = if cr + n < 0 then 0 else if tt - 1 < cr + n then tt - 1 else cr + n := ⟨_, rfl⟩
    have hrb : 0 ≤ r ∧ r < tt := by
      rw [hr]
      split
      · omega
      · split <;> omega
    obtain ⟨v, b, -, -, -, -, e1, e2, e3, eb, e4, e5, -, -, -, -, -, -, -, e13⟩ := zz_rowget (d := d) (T := T) h hf (r := r) (by rw [← htt]; exact hrb)
    have hnv := hwf.2.1 v e1.1 e1.2
    have hll := zs_cl_ll hc (show 0 ≤ v ∧ v < 12 by omega)
    obtain ⟨q, hq⟩ : ∃ q, q = X + 135 + 11 + 9 * v := ⟨_, rfl⟩
    have ell : ∀ d, zG (d + 1) 78 [.inr (.inr (X + 135)), .inl v] (S, I, R, T) = some (q, (S, I, R, T)) := fun d => by
      rw [hq]; exact zx_laidLine (zcl_sc hc) (by omega)
    rw [← hq] at e13 hll e2
    have hk4 := hll.2.1
    have hb := zl_beg e13.2.2.1 (r := r - b) (by omega)
    have hrows := e13.2.2.1.1
    obtain ⟨p, p1, p2⟩ := zx_placeNear (d := d + 7) (I := I) (T := T) (r := r - b) (x := I X 8) hll (by omega) (by rw [e13.1]; exact hb) (by rw [e13.1]; exact hnv.2)
    rw [e13.1] at p2
    have hp : 0 ≤ p ∧ p ≤ I (M + 1) (1 + v) := by
      rcases p2 with ⟨z1, z2, -⟩ | ⟨z1, -⟩ <;> omega
    obtain ⟨J, hJ⟩ : ∃ J, J = zi_up (zi_up I f 2 v) f 3 p := ⟨_, rfl⟩
    have jq : ∀ z, z ≠ f → J z = I z := fun z hz => by rw [hJ, zu_off hz, zu_off hz]
    have jM := jq M (by omega)
    have jP := jq (M + 1) (by omega)
    have jmo : zr_mo J M := by unfold zr_mo at *; rw [jM]; exact hmo
    have jwf : zw_page (J (M + 1)) := by rw [jP]; exact hwf
    have jrz : zl_rows (J (M + 1)) (J M 6) (J M 7) (J M 8) (J M 9) (zr_rz I X) := by rw [jP, jM]; exact hrz
    obtain ⟨Ka, a1, a2⟩ := zzm_caretRow (d := d + 2) (I := J) (T := T) (J := I) (x := X + 135 + 11 + 9 * I (M + 1) 518) hm jmo jwf jrz (by rw [jP, jM]; exact pic0)
    rw [jP, ← hcr] at a1
    obtain ⟨Kb, b1, b2⟩ := zzm_screenRows (d := d + 2) (T := T) hm jmo jwf jrz a2
    rw [jP, ← htt] at b1
    obtain ⟨Kc, v', c1, c2, c3, c4, c5⟩ := zzm_lineOfRow (d := d + 3) (T := T) (r := r) hm jmo jwf jrz b2 (by rw [jP, ← htt]; exact hrb)
    rw [jP] at c3 c4 c5
    have hS := zk_smS (g := zt_vis (I (M + 1)) (zr_rz I X)) e1.1
    have hvv : v' = v := by
      obtain ⟨v2, z1, z2⟩ := zzc_lineOfRow (d := d + 6) (I := I) (T := T) (r := r) hc hF hrep hwf hrz (by omega)
      obtain ⟨-, y1, y2, y3⟩ := z2.resolve_left (fun z => z.1 (by rw [← htt]; exact hrb))
      have q1 := zt_line_uniq hrz hwf.2.1 c3 y1 c4 c5 y2 y3
      rw [e4] at z1
      injection z1 with z1
      injection z1 with z1 _
      omega
    rw [hvv] at c1
    obtain ⟨Kd, d1, d2⟩ := zzm_firstRow (d := d + 3) (T := T) (l := v) hm jmo jwf jrz c2 (by rw [jP]; omega)
    rw [jP, ← eb] at d1
    obtain ⟨Ke, k1, k2, k3⟩ := zzm_lays (d := d + 5) (T := T) (l := v) hm jmo jwf d2 (by rw [jP]; exact e1)
    rw [jP, jM] at k3
    have keP : Ke (M + 1) = I (M + 1) := (zo_P k2).trans jP
    obtain ⟨Kf, hKf⟩ : ∃ Kf, Kf = zi_up Ke (M + 1) 518 v := ⟨_, rfl⟩
    have kfo : ∀ z, z ≠ M + 1 → Kf z = Ke z := fun z hz => by rw [hKf, zu_off hz]
    have kfP : Kf (M + 1) = zt_up (I (M + 1)) 518 v := by rw [hKf, zu_row, keP]
    have kfm : zr_mok I Kf M v := by
      obtain ⟨y1, y2, y3, y4⟩ := k3
      refine ⟨?_, by rw [kfo M (by omega)]; exact y2, by rw [kfo (M + 9) (by omega)]; exact y3, by rw [kfo (M + 10) (by omega)]; exact y4⟩
      rw [kfo M (by omega), kfo (M + 7) (by omega), kfo (M + 8) (by omega), kfo (M + 9) (by omega), kfo (M + 10) (by omega), kfo (M + 11) (by omega)]
      exact y1
    obtain ⟨p', z1, z2, z3⟩ := zz_near (d := d + 7) (T := T) (c := I X 8) (y := I X 8) hm hll hmo (by omega) hnv e13 kfm (by rw [kfP, zt_up_ne (by omega)]) (by rw [kfP]; exact zt_sg_congr (zt_up_ne (by omega)) (fun i i1 i2 => zt_up_ne (by omega))) e2 (fun _ _ _ => Iff.rfl)
    have hpp : p' = p := zl_lst_uniq z3 p2 (fun _ _ _ => Iff.rfl)
    rw [hpp] at z2
    have g10 : Kf M 10 = I X 8 := by rw [kfo M (by omega), k2.2 10 (by omega) (by omega), jM, ← hnum.1]
    have fin := zzm_down58 (d := d) (T := T) (c := I X 8) (b := b) (w' := 19998) hm c1 d1 k1 (by rw [← hKf]; exact g10) (by rw [← hKf]; exact z2) (by omega) (by omega)
    rw [← hKf] at fin
    refine ⟨r, J, R, zi_up Kf (M + 1) 519 p, ?_, ?_, ?_⟩
    · have mn : ∀ u w σ d, zG (d + 1) 1004 [.inr (.inl u), .inr (.inl w)] σ = some (if w < u then w else u, σ) := fun u w σ d => rfl
      have mx : ∀ u w σ d, zG (d + 1) 1003 [.inr (.inl u), .inr (.inl w)] σ = some (if w < u then u else w, σ) := fun u w σ d => rfl
      have er : (if (if tt - 1 < cr + n then tt - 1 else cr + n) < 0 then 0 else (if tt - 1 < cr + n then tt - 1 else cr + n)) = r := by
        rw [hr]
        by_cases q1 : tt - 1 < cr + n
        · simp only [if_pos q1]
          rw [if_neg (by omega), if_neg (by omega)]
        · simp only [if_neg q1]
      have cmp : ¬ 0 < (if 2147483647 < cr + n then (1 : Int) else if cr + n = 2147483647 then 0 else -1) := by
        rw [if_neg g]
        split <;> omega
      rw [zm_121]
      ((try simp only [zbd_conv]); simp (disch := first | assumption | omega | trivial) only [↓reduceIte, zbd_some, eq_self, Int.reduceEq, Int.reduceLT, Int.reduceLE, and_self, or_true, true_or, or_false, false_or, if_pos, if_neg, if_true, if_false, true_and, and_true, not_true_eq_false, not_false_eq_true, false_and, and_false, Option.bind_some, zq_t, zq_f, zq0, zq1, zw_id, zcl_x1 hc, hf, zfr_k hF, zfr_r0 hF, zfr_r1 hF, zfr_lk hF, zfr_fk hF, zcl_c3 hc, (zcl_sc hc).2.1, ccr, zw64_id, cmp, zzc_rowCount hc hF hrep hwf hrz, htt.symm, mn, mx, er, e4, ell, e5, hk4, p1, zwr])
      rw [hJ]
    · rw [zm_210]
      by_cases q1 : cr + n < 0
      · have er : r = 0 := by rw [hr, if_pos q1]
        rw [er] at fin ⊢
        ((try simp only [zbd_conv]); simp (disch := first | assumption | omega | trivial) only [↓reduceIte, zbd_some, eq_self, Int.reduceEq, Int.reduceLT, Int.reduceLE, and_self, or_true, true_or, or_false, false_or, if_pos, if_neg, if_true, if_false, true_and, and_true, not_true_eq_false, not_false_eq_true, false_and, and_false, Option.bind_some, zq_t, zq_f, zq0, zq1, zw_id, zmo_1 hm, zmo_r0 hm, zmo_s1 hm, a1, zw64_id, zy_in, b1])
        exact fin
      · by_cases q2 : tt - 1 < cr + n
        · have er : r = tt - 1 := by rw [hr, if_neg q1, if_pos q2]
          rw [er] at fin ⊢
          by_cases q3 : cr + n = 0
          · ((try simp only [zbd_conv]); simp (disch := first | assumption | omega | trivial) only [↓reduceIte, zbd_some, eq_self, Int.reduceEq, Int.reduceLT, Int.reduceLE, and_self, or_true, true_or, or_false, false_or, if_pos, if_neg, if_true, if_false, true_and, and_true, not_true_eq_false, not_false_eq_true, false_and, and_false, Option.bind_some, zq_t, zq_f, zq0, zq1, zw_id, zmo_1 hm, zmo_r0 hm, zmo_s1 hm, a1, zw64_id, zy_in, b1])
            exact fin
          · ((try simp only [zbd_conv]); simp (disch := first | assumption | omega | trivial) only [↓reduceIte, zbd_some, eq_self, Int.reduceEq, Int.reduceLT, Int.reduceLE, and_self, or_true, true_or, or_false, false_or, if_pos, if_neg, if_true, if_false, true_and, and_true, not_true_eq_false, not_false_eq_true, false_and, and_false, Option.bind_some, zq_t, zq_f, zq0, zq1, zw_id, zmo_1 hm, zmo_r0 hm, zmo_s1 hm, a1, zw64_id, zy_in, b1])
            exact fin
        · have er : r = cr + n := by rw [hr, if_neg q1, if_neg q2]
          rw [er] at fin ⊢
          by_cases q3 : cr + n = 0
          · by_cases q4 : cr + n = tt - 1
            · ((try simp only [zbd_conv]); simp (disch := first | assumption | omega | trivial) only [↓reduceIte, zbd_some, eq_self, Int.reduceEq, Int.reduceLT, Int.reduceLE, and_self, or_true, true_or, or_false, false_or, if_pos, if_neg, if_true, if_false, true_and, and_true, not_true_eq_false, not_false_eq_true, false_and, and_false, Option.bind_some, zq_t, zq_f, zq0, zq1, zw_id, zmo_1 hm, zmo_r0 hm, zmo_s1 hm, a1, zw64_id, zy_in, b1])
              exact fin
            · ((try simp only [zbd_conv]); simp (disch := first | assumption | omega | trivial) only [↓reduceIte, zbd_some, eq_self, Int.reduceEq, Int.reduceLT, Int.reduceLE, and_self, or_true, true_or, or_false, false_or, if_pos, if_neg, if_true, if_false, true_and, and_true, not_true_eq_false, not_false_eq_true, false_and, and_false, Option.bind_some, zq_t, zq_f, zq0, zq1, zw_id, zmo_1 hm, zmo_r0 hm, zmo_s1 hm, a1, zw64_id, zy_in, b1])
              exact fin
          · by_cases q4 : cr + n = tt - 1
            · ((try simp only [zbd_conv]); simp (disch := first | assumption | omega | trivial) only [↓reduceIte, zbd_some, eq_self, Int.reduceEq, Int.reduceLT, Int.reduceLE, and_self, or_true, true_or, or_false, false_or, if_pos, if_neg, if_true, if_false, true_and, and_true, not_true_eq_false, not_false_eq_true, false_and, and_false, Option.bind_some, zq_t, zq_f, zq0, zq1, zw_id, zmo_1 hm, zmo_r0 hm, zmo_s1 hm, a1, zw64_id, zy_in, b1])
              exact fin
            · ((try simp only [zbd_conv]); simp (disch := first | assumption | omega | trivial) only [↓reduceIte, zbd_some, eq_self, Int.reduceEq, Int.reduceLT, Int.reduceLE, and_self, or_true, true_or, or_false, false_or, if_pos, if_neg, if_true, if_false, true_and, and_true, not_true_eq_false, not_false_eq_true, false_and, and_false, Option.bind_some, zq_t, zq_f, zq0, zq1, zw_id, zmo_1 hm, zmo_r0 hm, zmo_s1 hm, a1, zw64_id, zy_in, b1])
              exact fin
    · have gg : ∀ z, z ≠ M + 1 → zi_up Kf (M + 1) 519 p z = Ke z := fun z hz => by rw [zu_off hz, kfo z hz]
      refine zR4_move h hf e1 hp (c := I X 8) (fun z z1 z2 z3 => ?_) (fun j hj => ?_) ?_ ?_ (fun z z1 z2 => ?_) ?_ (fun j j1 j2 j3 => ?_) ?_
      · rw [gg z (by omega), k2.1 z (by omega) (by omega), jq z z2]
      · rw [gg X (by omega), k2.1 X (by omega) (by omega), jq X (by omega)]
      · rw [gg X (by omega), k2.1 X (by omega) (by omega), jq X (by omega)]
      · rw [gg f (by omega), k2.1 f (by omega) (by omega), hJ]
      · rw [gg z (by omega), k2.1 z (by omega) z2, jq z (by omega)]
      · rw [zu_row, kfP]
      · rw [gg M (by omega), k2.2 j j2 j3, jM]
      · rw [gg M (by omega), ← kfo M (by omega), g10]
end ZMz
