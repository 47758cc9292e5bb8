/-! paste -/
section ZPb
variable {d : Nat} {S : zS} {I J J0 J1 J2 K K0 K1 R R' : zI} {T : Int × Nat} {X M n v l f c k x y z r i p w t m e b g len N o u a : Int} {P Q s ce : Int → Int}
theorem zz_paste (h : zR4 S I R X M) (ho : -2147483648 ≤ o ∧ o < 2147483648) : zz_ok (d + 11) S I R T X M 136 238 [.inl k, .inl y, .inl o, .inl n] := by
  obtain ⟨hc, hm, hap, hall⟩ := id h
  have oo : zo_ly I I M := zo_ly_refl
  have X0 := hc.1.1
  have so := fun d => zx_sheetOf (d := d) (I := I) (T := T) (k := k) hc
  by_cases gk : 0 ≤ k ∧ k < 4
  · simp only [if_pos gk] at so
    have z0 : ¬ X + 292 + 2 * k = 0 := by omega
    have sh := zcl_sh hc gk
    have sk := sh.2.1
    by_cases gy : 0 ≤ y ∧ y ≤ 3
    · by_cases gn : 1 ≤ n ∧ n ≤ 20
      · have os := hall.2.2.2.2.2.2.2 k gk.1 gk.2
        unfold zc_sh1 at os
        rw [zr_row_q, zr_row_q, zr_row_q] at os
        obtain ⟨o1, o2⟩ := os
        obtain ⟨v, f1, f2⟩ := zx_faultOfSigns (d := d + 7) (I := I) (T := T) (l := y) (n := n) sh o1.2 ho (by omega)
        -- the class returns a fault
        have cfail : v ≠ 0 → zG (d + 11) 136 [.inr (.inr X), .inl k, .inl y, .inl o, .inl n] (S, I, R, T) = some (v, (S, I, R, T)) := fun q => by
          rw [zm_136]
          ((try simp only [zbd_conv]); simp (disch := first | assumption | omega | trivial) only [↓reduceIte, zbd_some, eq_self, Int.reduceEq, Int.reduceLT, Int.reduceLE, and_self, or_true, true_or, or_false, false_or, if_pos, if_neg, if_true, if_false, true_and, and_true, not_true_eq_false, not_false_eq_true, false_and, and_false, Option.bind_some, zq_t, zq_f, zq0, zq1, zw_id, zcl_x1 hc, so, z0, zx_hasLane, sk, f1])
        rcases o2 with ⟨q1, q2⟩ | ⟨q1, q2, q3, q4, q5⟩
        · have hv : v = -11 := by
            rcases f2 with a | a | a
            · exact a.2
            · exact absurd q1 a.1
            · exact absurd q1 a.1
          refine zz_read (v := v) h (cfail (by omega)) ?_ oo
          rw [hv, zm_238]
          ((try simp only [zbd_conv]); simp (disch := first | assumption | omega | trivial) only [↓reduceIte, zbd_some, eq_self, Int.reduceEq, Int.reduceLT, Int.reduceLE, and_self, or_true, true_or, or_false, false_or, if_pos, if_neg, if_true, if_false, true_and, and_true, not_true_eq_false, not_false_eq_true, false_and, and_false, Option.bind_some, zq_t, zq_f, zq0, zq1, zw_id, zy_isSheet, zy_in])
          rw [zk_238_26]
          ((try simp only [zbd_conv]); simp (disch := first | assumption | omega | trivial) only [↓reduceIte, zbd_some, eq_self, Int.reduceEq, Int.reduceLT, Int.reduceLE, and_self, or_true, true_or, or_false, false_or, if_pos, if_neg, if_true, if_false, true_and, and_true, not_true_eq_false, not_false_eq_true, false_and, and_false, Option.bind_some, zq_t, zq_f, zq0, zq1, zw_id, zmo_1 hm, zmo_r26 hm, zmo_s14 hm, q2])
        · have ne0 : ¬ I (X + 292 + 2 * k) 0 = 0 := by omega
          by_cases gl : I (M + 14) k = y
          · -- the lane is right
            obtain ⟨z, hz⟩ : ∃ z, I (M + 15) k = z := ⟨_, rfl⟩
            rw [hz] at q4 q5
            rw [q4] at o1
            obtain ⟨ce, hce⟩ : ∃ ce : Int → Int, ce = fun j => I (M + 16) (20 * k + j) := ⟨_, rfl⟩
            have sc : zf_scan z (I (X + 292 + 2 * k + 1)) o n v := by
              rcases f2 with a | a | a
              · exact absurd a.1 ne0
              · exact absurd (by rw [q3, gl]) a.2.1
              · rw [q4] at a; exact a.2.2
            have psc : ∀ (A R' : zI), zs_mo S R' M → (∀ q, M + 14 ≤ q → q ≤ M + 16 → A q = I q) → (v ≠ 0 → zi_run zt_238 (zG (d + 10)) 19999 26 [some (.inr (.inr M)), some (.inl k), some (.inl y), some (.inl o), some (.inl n), some (.inl 0), none, none] [] (S, A, R', T) = some (v, (S, A, R', T))) ∧ (v = 0 → ∃ w2, 150 < w2 ∧ zi_run zt_238 (zG (d + 10)) 19999 26 [some (.inr (.inr M)), some (.inl k), some (.inl y), some (.inl o), some (.inl n), some (.inl 0), none, none] [] (S, A, R', T) = zi_run zt_238 (zG (d + 10)) w2 26 [some (.inr (.inr M)), some (.inl k), some (.inl y), some (.inl o), some (.inl n), some (.inl n), none, none] [] (S, A, R', T)) := fun A R' hm' hA => by
              obtain ⟨v', v1, v2, v3⟩ := zy_pscan (d := d + 6) (I := A) (R := R') (T := T) (ce := ce) (z := z) (y := y) (o := o) hm' gk (by rw [hA _ (by omega) (by omega)]; exact gl) (by omega) (by rw [hA _ (by omega) (by omega)]; exact hz) o1 (by rw [hce, hA _ (by omega) (by omega)]) ho gn n.toNat 0 19999 (by omega) (by omega) (by omega) (fun j j1 j2 => by omega)
              have e := zf_scan_uniq sc v1 (fun j j1 j2 => by rw [hce]; exact q5 j j1 j2)
              rw [← e] at v2 v3
              exact ⟨v2, v3⟩
            by_cases gv : v = 0
            · -- all are signs, and in the sheet
              have bnd : 0 ≤ o ∧ o + n ≤ z := by
                obtain ⟨i, i1, i2, i3⟩ := sc
                rcases i3 with i3 | i3 | i3
                · obtain ⟨i4, -⟩ := i3
                  have a := (i2 0 (by omega) (by omega)).1
                  have b := (i2 (n - 1) (by omega) (by omega)).1
                  omega
                · omega
                · omega
              obtain ⟨⟨hrep, hwf⟩, -⟩ := zR4_facts h
              obtain ⟨f, hf⟩ : ∃ f, R X 6 = f := ⟨_, rfl⟩
              rw [hf] at hrep
              have hF := zcl_fr hc hf
              have fa := zcl_fa6 hc hf
              have lo := zs_fa_lo fa
              obtain ⟨P, hP⟩ : ∃ P, I (M + 1) = P := ⟨_, rfl⟩
              obtain ⟨l, hl⟩ : ∃ l, P 518 = l := ⟨_, rfl⟩
              obtain ⟨i, hi⟩ : ∃ i, P 519 = i := ⟨_, rfl⟩
              obtain ⟨len, hlen⟩ : ∃ len, P (1 + l) = len := ⟨_, rfl⟩
              rw [hP] at hrep hwf
              obtain ⟨w6, w7, w8⟩ := hwf.2.2.2.2.2
              have w0 := hwf.1
              have wn := hwf.2.1 _ w6.1 w6.2
              rw [hl] at w6 w8 wn
              rw [hi] at w7 w8
              rw [hlen] at w8 wn
              have c6 : I f 2 = l := by rw [hrep.2.2.2.2.2.1, hl]
              have m6 : I (M + 1) 518 = l := by rw [hP, hl]
              have mn : I (M + 1) (1 + l) = len := by rw [hP, hlen]
              by_cases g4 : len + n ≤ 40
              · obtain ⟨J1, R', g, e1, hc', hm', hf', hg, r1, r2, rp, rse⟩ := zz_rem (d := d + 4) (T := T) h hf
                have hF' := zcl_fr hc' hf'
                have log := zs_fa_lo hg.1
                rw [hP] at rp
                obtain ⟨s, hs⟩ : ∃ s : Int → Int, s = fun j => ce (o + j) := ⟨_, rfl⟩
                obtain ⟨J2, p1, p2, p3⟩ := zx_ploop (d := d + 4) (T := T) (J1 := J1) (s := s) hc' hf' gk hwf hl hi hlen (n := n) (by omega) (o := o) (by omega) (fun j j1 j2 => by
                  rw [r1 _ (by omega) (by omega), q5 (o + j) (by omega) (by omega), hs, hce]) n.toNat 0 (19999 - n.toNat) J1 (by omega) (by omega) (by rw [zt_insn_0 hlen hi]; exact rp) (fun q _ => rfl)
                rw [show 19999 - n.toNat + n.toNat = 19999 by omega] at p1
                obtain ⟨P2, hP2⟩ : ∃ P2, P2 = zt_insn P l i n len s := ⟨_, rfl⟩
                rw [← hP2] at p2
                have wp2 : zw_page P2 := by rw [hP2]; exact zw_insn hwf hl hi hlen (by omega) (by omega)
                have q8 : P2 518 = l := by rw [hP2, zt_insn_at, if_neg (by omega), if_neg (by omega), if_neg (by omega), if_neg (by omega), hl]
                have q0 : P2 0 = P 0 := by rw [hP2, zt_insn_at, if_neg (by omega), if_neg (by omega), if_neg (by omega), if_neg (by omega)]
                have qn : P2 (1 + l) = len + n := by rw [hP2, zt_insn_at, if_pos rfl]
                obtain ⟨J, l1, l2⟩ := zz_layline (d := d + 4) (T := T) h hf hc' hf' hg r1 p3 p2 wp2 (by rw [q0, hP]) (fun l' h1 h2 h3 => by
                  rw [q0] at h2
                  rw [q8] at h3
                  rw [hP, hP2]
                  refine ⟨?_, fun x x1 x2 => ?_⟩
                  · rw [zt_insn_at, if_neg (by omega), if_neg (by omega), if_neg (by omega), if_neg (by omega)]
                  · rw [zt_insn_at, if_neg (by omega), if_neg (by omega), if_neg (by omega), if_neg (by omega)])
                obtain ⟨vv, f1', f2'⟩ := zc_done_rep l2
                have jq : ∀ q, X + 300 ≤ q → J q = I q := fun q q1 => by rw [zc_done_q l2 fa q1, p3 q (by omega), r1 q (by omega) (by omega)]
                have dn := (zr_done_ir h).1
                obtain ⟨K1, a1, a2, a3, a4, a5, a6⟩ := zy_edits (d := d + 7) (I := J) (T := T) hm' (n := I M 4) (by rw [jq M hap]) dn
                have k1P : K1 (M + 1) = P := by rw [a2 _ (by omega) (by omega), jq _ (by omega), hP]
                have sp := zy_spreads (d := d + 8) (I := K1) (T := T) hm' k1P hl hi hlen (by omega) (by omega) (n := n) (by omega)
                obtain ⟨K, b1, b2, v', b3⟩ := zz_edit (d := d + 4) (T := T) h hf hc' hm' hf' hg r1 r2 p3 wp2 l2 (fun q q1 q2 _ => a2 q q1 q2) (fun j j1 j2 _ _ => a3 j j1 j2) a4 a5 (by rw [a6, jq _ (by omega), jq _ (by omega)]) (K0 := zt_row K1 (M + 1) P2) (fun q q1 _ => zt_row_off q1) zt_row_eq
                rw [hP2] at b1
                have kl : K (M + 1) 518 = l := by rw [b3, zt_up_ne (by omega), q8]
                have kn : K (M + 1) (1 + l) = len + n := by rw [b3, zt_up_ne (by omega), qn]
                obtain ⟨w2, w2a, w2b⟩ := (psc J R' hm' (fun q q1 q2 => jq q (by omega))).2 gv
                obtain ⟨w3, rfl⟩ : ∃ w3, w2 = w3 + 1 := ⟨w2 - 1, by omega⟩
                have lp := zy_ploop (d := d + 4) (T := T) (I := K1) (s := s) (o := o) hm' (fun j j1 j2 => by
                  rw [a2 _ (by omega) (by omega), jq _ (by omega), hs, hce]
                  dsimp only
                  rw [show 20 * k + o + j = 20 * k + (o + j) by omega]) gk (by omega) hl hi hlen (by omega) (by omega) (by omega) b1 kl kn n.toNat 0 w3 (by omega) (by omega) (by omega)
                have e0 : zt_row K1 (M + 1) (fun x => if 13 + 40 * l + i ≤ x ∧ x < 13 + 40 * l + i + 0 then s (x - (13 + 40 * l + i)) else zt_spr P l i n len x) = zt_row K1 (M + 1) (zt_spr P l i n len) := congrArg (zt_row K1 (M + 1)) (by
                  funext x
                  rw [if_neg (by omega)])
                rw [e0] at lp
                have n6 : J (M + 1) 518 = l := by rw [jq _ (by omega), m6]
                have nn : J (M + 1) (1 + l) = len := by rw [jq _ (by omega), mn]
                refine ⟨len + n, J, R', K, ?_, ?_, b2⟩
                · have len' := fun d => zzc_length (d := d) (I := J) (T := T) hF' f1' f2' (l := l) (by rw [zt_up_ne (by omega), q0]; exact w6)
                  simp only [zt_up_ne (show ¬ 1 + l = 519 by omega), qn] at len'
                  rw [gv] at f1
                  rw [zm_136]
                  ((try simp only [zbd_conv]); simp (disch := first | assumption | omega | trivial) only [↓reduceIte, zbd_some, eq_self, Int.reduceEq, Int.reduceLT, Int.reduceLE, and_self, or_true, true_or, or_false, false_or, if_pos, if_neg, if_true, if_false, true_and, and_true, not_true_eq_false, not_false_eq_true, false_and, and_false, Option.bind_some, zq_t, zq_f, zq0, zq1, zw_id, zx_hasLane, so, z0, sk, f1, zcl_x1 hc, hf, zfr_k hF, zfr_r0 hF, zfr_r1 hF, zfr_lk hF, zfr_fk hF, zcl_c3 hc, (zcl_sc hc).2.1, zcl_c0 hc, zcl_c1 hc, zcl_c2 hc, (zcl_hi hc).2.1, hf', zfr_r0 hF', zfr_r1 hF', c6, zzc_length hF hrep hwf, hlen, e1])
                  rw [p1, show 19999 - n.toNat = (19998 - n.toNat) + 1 by omega, zk_136_99]
                  ((try simp only [zbd_conv]); simp (disch := first | assumption | omega | trivial) only [↓reduceIte, zbd_some, eq_self, Int.reduceEq, Int.reduceLT, Int.reduceLE, and_self, or_true, true_or, or_false, false_or, if_pos, if_neg, if_true, if_false, true_and, and_true, not_true_eq_false, not_false_eq_true, false_and, and_false, Option.bind_some, zq_t, zq_f, zq0, zq1, zw_id, zcl_x1 hc, hf, zfr_k hF, zfr_r0 hF, zfr_r1 hF, zfr_lk hF, zfr_fk hF, zcl_c3 hc, (zcl_sc hc).2.1, zcl_c0 hc, zcl_c1 hc, zcl_c2 hc, (zcl_hi hc).2.1, hf', zfr_r0 hF', zfr_r1 hF', l1, len'])
                · rw [zm_238]
                  ((try simp only [zbd_conv]); simp (disch := first | assumption | omega | trivial) only [↓reduceIte, zbd_some, eq_self, Int.reduceEq, Int.reduceLT, Int.reduceLE, and_self, or_true, true_or, or_false, false_or, if_pos, if_neg, if_true, if_false, true_and, and_true, not_true_eq_false, not_false_eq_true, false_and, and_false, Option.bind_some, zq_t, zq_f, zq0, zq1, zw_id, zy_isSheet, zy_in])
                  rw [w2b, zk_238_26]
                  ((try simp only [zbd_conv]); simp (disch := first | assumption | omega | trivial) only [↓reduceIte, zbd_some, eq_self, Int.reduceEq, Int.reduceLT, Int.reduceLE, and_self, or_true, true_or, or_false, false_or, if_pos, if_neg, if_true, if_false, true_and, and_true, not_true_eq_false, not_false_eq_true, false_and, and_false, Option.bind_some, zq_t, zq_f, zq0, zq1, zw_id, zmo_1 hm', zmo_r0 hm', zmo_s1 hm', n6, zy_len hm', nn, a1, sp])
                  exact lp
              · refine zz_read (v := -3) h ?_ ?_ oo
                · rw [gv] at f1
                  rw [zm_136]
                  ((try simp only [zbd_conv]); simp (disch := first | assumption | omega | trivial) only [↓reduceIte, zbd_some, eq_self, Int.reduceEq, Int.reduceLT, Int.reduceLE, and_self, or_true, true_or, or_false, false_or, if_pos, if_neg, if_true, if_false, true_and, and_true, not_true_eq_false, not_false_eq_true, false_and, and_false, Option.bind_some, zq_t, zq_f, zq0, zq1, zw_id, zx_hasLane, so, z0, sk, f1, zcl_x1 hc, hf, zfr_k hF, zfr_r0 hF, zfr_r1 hF, zfr_lk hF, zfr_fk hF, zcl_c3 hc, (zcl_sc hc).2.1, c6, zzc_length hF hrep hwf, hlen])
                · obtain ⟨w2, w2a, w2b⟩ := (psc I R hm (fun q q1 q2 => rfl)).2 gv
                  obtain ⟨w3, rfl⟩ : ∃ w3, w2 = w3 + 1 := ⟨w2 - 1, by omega⟩
                  rw [zm_238]
                  ((try simp only [zbd_conv]); simp (disch := first | assumption | omega | trivial) only [↓reduceIte, zbd_some, eq_self, Int.reduceEq, Int.reduceLT, Int.reduceLE, and_self, or_true, true_or, or_false, false_or, if_pos, if_neg, if_true, if_false, true_and, and_true, not_true_eq_false, not_false_eq_true, false_and, and_false, Option.bind_some, zq_t, zq_f, zq0, zq1, zw_id, zy_isSheet, zy_in])
                  rw [w2b, zk_238_26]
                  ((try simp only [zbd_conv]); simp (disch := first | assumption | omega | trivial) only [↓reduceIte, zbd_some, eq_self, Int.reduceEq, Int.reduceLT, Int.reduceLE, and_self, or_true, true_or, or_false, false_or, if_pos, if_neg, if_true, if_false, true_and, and_true, not_true_eq_false, not_false_eq_true, false_and, and_false, Option.bind_some, zq_t, zq_f, zq0, zq1, zw_id, zmo_1 hm, zmo_r0 hm, zmo_s1 hm, m6, zy_len hm, mn])
            · refine zz_read (v := v) h (cfail gv) ?_ oo
              rw [zm_238]
              ((try simp only [zbd_conv]); simp (disch := first | assumption | omega | trivial) only [↓reduceIte, zbd_some, eq_self, Int.reduceEq, Int.reduceLT, Int.reduceLE, and_self, or_true, true_or, or_false, false_or, if_pos, if_neg, if_true, if_false, true_and, and_true, not_true_eq_false, not_false_eq_true, false_and, and_false, Option.bind_some, zq_t, zq_f, zq0, zq1, zw_id, zy_isSheet, zy_in])
              exact (psc I R hm (fun q q1 q2 => rfl)).1 gv
          · have hv : v = -12 := by
              rcases f2 with a | a | a
              · exact absurd a.1 ne0
              · exact a.2.2
              · exact absurd (by rw [a.2.1, q3]) gl
            refine zz_read (v := v) h (cfail (by omega)) ?_ oo
            have n4 : ¬ I (M + 14) k = -4 := by omega
            have gl' : ¬ I (M + 14) k = y := gl
            rw [hv, zm_238]
            ((try simp only [zbd_conv]); simp (disch := first | assumption | omega | trivial) only [↓reduceIte, zbd_some, eq_self, Int.reduceEq, Int.reduceLT, Int.reduceLE, and_self, or_true, true_or, or_false, false_or, if_pos, if_neg, if_true, if_false, true_and, and_true, not_true_eq_false, not_false_eq_true, false_and, and_false, Option.bind_some, zq_t, zq_f, zq0, zq1, zw_id, zy_isSheet, zy_in])
            rw [zk_238_26]
            ((try simp only [zbd_conv]); simp (disch := first | assumption | omega | trivial) only [↓reduceIte, zbd_some, eq_self, Int.reduceEq, Int.reduceLT, Int.reduceLE, and_self, or_true, true_or, or_false, false_or, if_pos, if_neg, if_true, if_false, true_and, and_true, not_true_eq_false, not_false_eq_true, false_and, and_false, Option.bind_some, zq_t, zq_f, zq0, zq1, zw_id, zmo_1 hm, zmo_r26 hm, zmo_s14 hm, n4, gl'])
      · refine zz_read (v := -1) h ?_ ?_ oo
        · rw [zm_136]
          by_cases g1 : n < 1
          · ((try simp only [zbd_conv]); simp (disch := first | assumption | omega | trivial) only [↓reduceIte, zbd_some, eq_self, Int.reduceEq, Int.reduceLT, Int.reduceLE, and_self, or_true, true_or, or_false, false_or, if_pos, if_neg, if_true, if_false, true_and, and_true, not_true_eq_false, not_false_eq_true, false_and, and_false, Option.bind_some, zq_t, zq_f, zq0, zq1, zw_id, zcl_x1 hc, so, z0, zx_hasLane])
          · ((try simp only [zbd_conv]); simp (disch := first | assumption | omega | trivial) only [↓reduceIte, zbd_some, eq_self, Int.reduceEq, Int.reduceLT, Int.reduceLE, and_self, or_true, true_or, or_false, false_or, if_pos, if_neg, if_true, if_false, true_and, and_true, not_true_eq_false, not_false_eq_true, false_and, and_false, Option.bind_some, zq_t, zq_f, zq0, zq1, zw_id, zcl_x1 hc, so, z0, zx_hasLane])
        · rw [zm_238]
          ((try simp only [zbd_conv]); simp (disch := first | assumption | omega | trivial) only [↓reduceIte, zbd_some, eq_self, Int.reduceEq, Int.reduceLT, Int.reduceLE, and_self, or_true, true_or, or_false, false_or, if_pos, if_neg, if_true, if_false, true_and, and_true, not_true_eq_false, not_false_eq_true, false_and, and_false, Option.bind_some, zq_t, zq_f, zq0, zq1, zw_id, zy_isSheet, zy_in])
    · refine zz_read (v := -1) h ?_ ?_ oo
      · rw [zm_136]
        ((try simp only [zbd_conv]); simp (disch := first | assumption | omega | trivial) only [↓reduceIte, zbd_some, eq_self, Int.reduceEq, Int.reduceLT, Int.reduceLE, and_self, or_true, true_or, or_false, false_or, if_pos, if_neg, if_true, if_false, true_and, and_true, not_true_eq_false, not_false_eq_true, false_and, and_false, Option.bind_some, zq_t, zq_f, zq0, zq1, zw_id, zcl_x1 hc, so, z0, zx_hasLane])
      · rw [zm_238]
        ((try simp only [zbd_conv]); simp (disch := first | assumption | omega | trivial) only [↓reduceIte, zbd_some, eq_self, Int.reduceEq, Int.reduceLT, Int.reduceLE, and_self, or_true, true_or, or_false, false_or, if_pos, if_neg, if_true, if_false, true_and, and_true, not_true_eq_false, not_false_eq_true, false_and, and_false, Option.bind_some, zq_t, zq_f, zq0, zq1, zw_id, zy_isSheet])
  · simp only [if_neg gk] at so
    refine zz_read (v := -1) h ?_ ?_ oo
    · rw [zm_136]
      ((try simp only [zbd_conv]); simp (disch := first | assumption | omega | trivial) only [↓reduceIte, zbd_some, eq_self, Int.reduceEq, Int.reduceLT, Int.reduceLE, and_self, or_true, true_or, or_false, false_or, if_pos, if_neg, if_true, if_false, true_and, and_true, not_true_eq_false, not_false_eq_true, false_and, and_false, Option.bind_some, zq_t, zq_f, zq0, zq1, zw_id, zcl_x1 hc, so])
    · rw [zm_238]
      ((try simp only [zbd_conv]); simp (disch := first | assumption | omega | trivial) only [↓reduceIte, zbd_some, eq_self, Int.reduceEq, Int.reduceLT, Int.reduceLE, and_self, or_true, true_or, or_false, false_or, if_pos, if_neg, if_true, if_false, true_and, and_true, not_true_eq_false, not_false_eq_true, false_and, and_false, Option.bind_some, zq_t, zq_f, zq0, zq1, zw_id, zy_isSheet])
end ZPb
