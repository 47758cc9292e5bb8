/-! a sign is typed -/
section ZTy
variable {d : Nat} {S : zS} {I J J1 J2 K K0 K1 R R' : zI} {T : Int × Nat} {X M n v l f c k x y z r i p w t m e b g len : Int} {P Q s : Int → Int}
theorem zz_layline (h : zR4 S I R X M) (hf : R X 6 = f) (hc' : zs_cl S R' X) (hf' : R' X 6 = f) (hg : zs_fa X g ∧ g ≠ f) (r1 : ∀ q, q ≠ X + 5 → (q < g ∨ g + 8 ≤ q) → J1 q = I q) (j2 : ∀ q, (q < f ∨ f + 8 ≤ q) → J2 q = J1 q) (hr : zv_rep J2 f P) (hw : zw_page P) (p0 : P 0 = I (M + 1) 0) (pl : ∀ l, 0 ≤ l → l < P 0 → l ≠ P 518 → P (1 + l) = I (M + 1) (1 + l) ∧ ∀ i, 0 ≤ i → i < 40 → P (13 + 40 * l + i) = I (M + 1) (13 + 40 * l + i)) : ∃ J, zG (d + 6) 139 [.inr (.inr X)] (S, J2, R', T) = some (0, (S, J, R', T)) ∧ zc_done J2 J X f P (I M 6) (I M 7) (I M 8) (I M 9) := by
  obtain ⟨hc, hm, hap, hall⟩ := id h
  obtain ⟨⟨-, hwf⟩, hst, hmo, hse, hlay, -⟩ := zR4_facts h
  have fa := zcl_fa6 hc hf
  have lo := zs_fa_lo fa
  have log := zs_fa_lo hg.1
  have jI : ∀ q, q ≠ X + 5 → (q < g ∨ g + 8 ≤ q) → (q < f ∨ f + 8 ≤ q) → J2 q = I q := fun q q1 q2 q3 => (j2 q q3).trans (r1 q q1 q2)
  have X4 : J2 (X + 4) = I (X + 4) := jI _ (by omega) (by omega) (by omega)
  have w1 := hw.1
  obtain ⟨J, l1, l2⟩ := zx_layCaretLine (d := d) (T := T) hc' hf' hr hw (by unfold zr_se at *; rw [X4]; exact hse) (fun l l1 l2 l3 => by
    obtain ⟨a1, a2⟩ := pl l l1 l2 l3
    have b := hlay l l1 (by omega)
    have bn := hwf.2.1 l l1 (by omega)
    rw [X4, hst.1, hst.2.1, hst.2.2.1, hst.2.2.2]
    exact zl_laid_congr (P := I (M + 1)) (zl_laid_mem b (by omega) (fun q q1 q2 => jI q (by omega) (by omega) (by omega))) (by omega) a1 (fun i i1 i2 => a2 i i1 (by omega)))
  rw [X4, hst.1, hst.2.1, hst.2.2.1, hst.2.2.2] at l2
  exact ⟨J, l1, l2⟩
theorem zz_layall (h : zR4 S I R X M) (hf : R X 6 = f) (hc' : zs_cl S R' X) (hf' : R' X 6 = f) (hg : zs_fa X g ∧ g ≠ f) (r1 : ∀ q, q ≠ X + 5 → (q < g ∨ g + 8 ≤ q) → J1 q = I q) (j2 : ∀ q, (q < f ∨ f + 8 ≤ q) → J2 q = J1 q) (hr : zv_rep J2 f P) (hw : zw_page P) : ∃ J, zG (d + 7) 138 [.inr (.inr X)] (S, J2, R', T) = some (0, (S, J, R', T)) ∧ zc_done J2 J X f P (I M 6) (I M 7) (I M 8) (I M 9) := by
  obtain ⟨hc, hm, hap, hall⟩ := id h
  obtain ⟨⟨-, hwf⟩, hst, hmo, hse, hlay, -⟩ := zR4_facts h
  have fa := zcl_fa6 hc hf
  have lo := zs_fa_lo fa
  have log := zs_fa_lo hg.1
  have X4 : J2 (X + 4) = I (X + 4) := by rw [j2 _ (by omega), r1 _ (by omega) (by omega)]
  obtain ⟨J, l1, l2⟩ := zx_layAll (d := d) (T := T) hc' hf' hr hw (by unfold zr_se at *; rw [X4]; exact hse)
  rw [X4, hst.1, hst.2.1, hst.2.2.1, hst.2.2.2] at l2
  exact ⟨J, l1, l2⟩
/-- what an edit leaves alone: the rows of the reference -/
theorem zc_done_q (hd : zc_done J2 J X f P w t m e) (fa : zs_fa X f) (q1 : X + 300 ≤ z) : J z = J2 z := by
  obtain ⟨v', c, -, d2, -⟩ := hd
  have lo := zs_fa_lo fa
  exact d2 z (by omega) (by omega) (by omega)
theorem zc_done_rep (hd : zc_done J2 J X f P w t m e) : ∃ v, zv_rep J f (zt_up P 519 v) ∧ zw_page (zt_up P 519 v) := by
  obtain ⟨v', c, -, -, -, -, d5, -⟩ := hd
  exact ⟨v', d5⟩
theorem zr_done_ir (h : zR4 S I R X M) : (0 ≤ I M 4 ∧ I M 4 ≤ 16) ∧ 0 ≤ I M 5 ∧ I M 4 + I M 5 ≤ 16 := by
  obtain ⟨hc, hm, hap, hall⟩ := id h
  have q := hall.2.2.2.2.2.1
  unfold zc_his at q
  rw [zr_row0] at q
  obtain ⟨-, a, -⟩ := q
  omega
theorem zz_type (h : zR4 S I R X M) : zz_ok (d + 11) S I R T X M 123 216 [.inl c] := by
  obtain ⟨hc, hm, hap, hall⟩ := id h
  have oo : zo_ly I I M := zo_ly_refl
  obtain ⟨⟨hrep, hwf⟩, -⟩ := zR4_facts h
  obtain ⟨f, hf⟩ : ∃ f, R X 6 = f := ⟨_, rfl⟩
  rw [hf] at hrep
  have hF := zcl_fr hc hf
  have fa := zcl_fa6 hc hf
  have lo := zs_fa_lo fa
  obtain ⟨P, hP⟩ : ∃ P, I (M + 1) = P := ⟨_, rfl⟩
  obtain ⟨l, hl⟩ : ∃ l, P 518 = l := ⟨_, rfl⟩
  obtain ⟨i, hi⟩ : ∃ i, P 519 = i := ⟨_, rfl⟩
  obtain ⟨n, hn⟩ : ∃ n, P (1 + l) = n := ⟨_, rfl⟩
  rw [hP] at hrep hwf
  obtain ⟨w6, w7, w8⟩ := hwf.2.2.2.2.2
  have w0 := hwf.1
  have wn := hwf.2.1 _ w6.1 w6.2
  rw [hl] at w6 w8 wn
  rw [hi] at w7 w8
  rw [hn] at w8 wn
  have c6 : I f 2 = l := by rw [hrep.2.2.2.2.2.1, hl]
  have m6 : I (M + 1) 518 = l := by rw [hP, hl]
  have mn : I (M + 1) (1 + l) = n := by rw [hP, hn]
  by_cases hs : zf_sign c
  · by_cases gn : n < 40
    · obtain ⟨J1, R', g, e1, hc', hm', hf', hg, r1, r2, rp, rse⟩ := zz_rem (d := d + 4) (T := T) h hf
      have hF' := zcl_fr hc' hf'
      have log := zs_fa_lo hg.1
      rw [hP] at rp
      have c7 : J1 f 3 = i := by rw [rp.2.2.2.2.2.2, hi]
      have cl : J1 (f + 1 + 1) l = n := by rw [show f + 1 + 1 = f + 2 by omega, rp.2.1 l w6.1 w6.2, hn]
      have p3 : zp_ins J1 (f + 1) l i n c f 3 = i := by unfold zp_ins; rw [if_neg (by omega), if_neg (by omega), if_neg (by omega), c7]
      have ins := fun d => zx_insert (d := d) (I := J1) (T := T) (c := c) (zfr_li hF') (l := l) (by omega) cl (by omega) (i := i) (by omega)
      obtain ⟨J2, hJ2⟩ : ∃ J2, J2 = zi_up (zp_ins J1 (f + 1) l i n c) f 3 (i + 1) := ⟨_, rfl⟩
      obtain ⟨P2, hP2⟩ : ∃ P2, P2 = zt_insn P l i 1 n (fun _ => c) := ⟨_, rfl⟩
      have rp2 : zv_rep J2 f P2 := by rw [hJ2, hP2]; exact zv_ins1 rp hwf hl hi hn gn
      have wp2 : zw_page P2 := by rw [hP2]; exact zw_insn hwf hl hi hn (by omega) (by omega)
      have j2 : ∀ q, (q < f ∨ f + 8 ≤ q) → J2 q = J1 q := fun q q1 => by
        rw [hJ2, zu_off (by omega)]
        funext j
        unfold zp_ins
        rw [if_neg (by omega), if_neg (by omega), if_neg (by omega)]
      have q8 : P2 518 = l := by rw [hP2, zt_insn_at, if_neg (by omega), if_neg (by omega), if_neg (by omega), if_neg (by omega), hl]
      have q0 : P2 0 = P 0 := by rw [hP2, zt_insn_at, if_neg (by omega), if_neg (by omega), if_neg (by omega), if_neg (by omega)]
      have qn : P2 (1 + l) = n + 1 := by rw [hP2, zt_insn_at, if_pos rfl]
      obtain ⟨J, l1, l2⟩ := zz_layline (d := d + 4) (T := T) h hf hc' hf' hg r1 j2 rp2 wp2 (by rw [q0, hP]) (fun l' h1 h2 h3 => by
        rw [q0] at h2
        rw [q8] at h3
        rw [hP, hP2]
        refine ⟨?_, fun x x1 x2 => ?_⟩
        · rw [zt_insn_at, if_neg (by omega), if_neg (by omega), if_neg (by omega), if_neg (by omega)]
        · rw [zt_insn_at, if_neg (by omega), if_neg (by omega), if_neg (by omega), if_neg (by omega)])
      obtain ⟨v, f1, f2⟩ := zc_done_rep l2
      have jq : ∀ q, X + 300 ≤ q → J q = I q := fun q q1 => by rw [zc_done_q l2 fa q1, j2 q (by omega), r1 q (by omega) (by omega)]
      have dn := (zr_done_ir h).1
      obtain ⟨K1, a1, a2, a3, a4, a5, a6⟩ := zy_edits (d := d + 7) (I := J) (T := T) hm' (n := I M 4) (by rw [jq M hap]) dn
      have k1P : K1 (M + 1) = P := by rw [a2 _ (by omega) (by omega), jq _ (by omega), hP]
      have sp := zy_spreads (d := d + 8) (I := K1) (T := T) hm' k1P hl hi hn (by omega) (by omega) (n := 1) (by omega)
      have s8 : zt_spr P l i 1 n 518 = l := by rw [zt_spr_at, if_neg (by omega), if_neg (by omega), hl]
      have s9 : zt_spr P l i 1 n 519 = i := by rw [zt_spr_at, if_neg (by omega), if_neg (by omega), hi]
      have s9' : zt_up (zt_spr P l i 1 n) (13 + 40 * l + i) c 519 = i := by rw [zt_up_ne (by omega), s9]
      obtain ⟨K, b1, b2, v', b3⟩ := zz_edit (d := d + 4) (T := T) h hf hc' hm' hf' hg r1 r2 j2 wp2 l2 (fun q q1 q2 _ => a2 q q1 q2) (fun j j1 j2 _ _ => a3 j j1 j2) a4 a5 (by rw [a6, jq _ (by omega), jq _ (by omega)]) (K0 := zt_row K1 (M + 1) (zt_up (zt_up (zt_spr P l i 1 n) (13 + 40 * l + i) c) 519 (i + 1))) (fun q q1 _ => zt_row_off q1) (by
        rw [zt_row_eq, hP2]
        funext j
        rw [zt_up_at, zt_up_at, zt_spr_at, zt_insn_at]
        by_cases x1 : j = 1 + l
        · rw [if_neg (by omega), if_neg (by omega), if_pos x1, if_pos x1]
        · rw [if_neg x1, if_neg x1]
          by_cases x2 : j = 519
          · rw [if_pos x2, if_pos x2]
          · rw [if_neg x2, if_neg x2]
            by_cases x3 : j = 13 + 40 * l + i
            · rw [if_pos x3, if_pos (by omega)]
            · rw [if_neg x3, if_neg (show ¬ (13 + 40 * l + i ≤ j ∧ j < 13 + 40 * l + i + 1) by omega)])
      have kl : K (M + 1) 518 = l := by rw [b3, zt_up_ne (by omega), q8]
      have kn : K (M + 1) (1 + l) = n + 1 := by rw [b3, zt_up_ne (by omega), qn]
      refine ⟨n + 1, J, R', K, ?_, ?_, b2⟩
      · have len := fun d => zzc_length (d := d) (I := J) (T := T) hF' f1 f2 (l := l) (by rw [zt_up_ne (by omega), q0]; exact w6)
        simp only [zt_up_ne (show ¬ 1 + l = 519 by omega), qn] at len
        rw [zm_123]
        ((try simp only [zbd_conv]); simp (disch := first | assumption | omega | trivial) only [↓reduceIte, zbd_some, eq_self, Int.reduceEq, Int.reduceLT, Int.reduceLE, and_self, or_true, true_or, or_false, false_or, if_pos, if_neg, if_true, if_false, true_and, and_true, not_true_eq_false, not_false_eq_true, false_and, and_false, Option.bind_some, zq_t, zq_f, zq0, zq1, zw_id, zx_isSign, zcl_x1 hc, hf, zfr_k hF, zfr_r0 hF, zfr_r1 hF, zfr_lk hF, zfr_fk hF, zcl_c3 hc, (zcl_sc hc).2.1, zcl_c0 hc, zcl_c1 hc, zcl_c2 hc, (zcl_hi hc).2.1, hf', zfr_r0 hF', zfr_r1 hF', c6, zzc_length hF hrep hwf, hn, e1, c7, ins, zwr, p3, ← hJ2, l1, len])
      · rw [zm_216]
        ((try simp only [zbd_conv]); simp (disch := first | assumption | omega | trivial) only [↓reduceIte, zbd_some, eq_self, Int.reduceEq, Int.reduceLT, Int.reduceLE, and_self, or_true, true_or, or_false, false_or, if_pos, if_neg, if_true, if_false, true_and, and_true, not_true_eq_false, not_false_eq_true, false_and, and_false, Option.bind_some, zq_t, zq_f, zq0, zq1, zw_id, zy_isSign, zmo_1 hm', zmo_r0 hm', zmo_s1 hm', jq, m6, zy_len hm', mn, a1, sp, zt_row_eq, s8, s9, zwr, zt_row_up, s9', b1, kl, kn])
    · refine zz_read (v := -3) h ?_ ?_ oo
      · rw [zm_123]
        ((try simp only [zbd_conv]); simp (disch := first | assumption | omega | trivial) only [↓reduceIte, zbd_some, eq_self, Int.reduceEq, Int.reduceLT, Int.reduceLE, and_self, or_true, true_or, or_false, false_or, if_pos, if_neg, if_true, if_false, true_and, and_true, not_true_eq_false, not_false_eq_true, false_and, and_false, Option.bind_some, zq_t, zq_f, zq0, zq1, zw_id, zx_isSign, zcl_x1 hc, hf, zfr_k hF, zfr_r0 hF, zfr_r1 hF, zfr_lk hF, zfr_fk hF, zcl_c3 hc, (zcl_sc hc).2.1, c6, zzc_length hF hrep hwf, hn])
      · rw [zm_216]
        ((try simp only [zbd_conv]); simp (disch := first | assumption | omega | trivial) only [↓reduceIte, zbd_some, eq_self, Int.reduceEq, Int.reduceLT, Int.reduceLE, and_self, or_true, true_or, or_false, false_or, if_pos, if_neg, if_true, if_false, true_and, and_true, not_true_eq_false, not_false_eq_true, false_and, and_false, Option.bind_some, zq_t, zq_f, zq0, zq1, zw_id, zy_isSign, zmo_1 hm, zmo_r0 hm, zmo_s1 hm, m6, zy_len hm, mn])
  · refine zz_read (v := -1) h ?_ ?_ oo
    · rw [zm_123]
      ((try simp only [zbd_conv]); simp (disch := first | assumption | omega | trivial) only [↓reduceIte, zbd_some, eq_self, Int.reduceEq, Int.reduceLT, Int.reduceLE, and_self, or_true, true_or, or_false, false_or, if_pos, if_neg, if_true, if_false, true_and, and_true, not_true_eq_false, not_false_eq_true, false_and, and_false, Option.bind_some, zq_t, zq_f, zq0, zq1, zw_id, zx_isSign])
    · rw [zm_216]
      ((try simp only [zbd_conv]); simp (disch := first | assumption | omega | trivial) only [↓reduceIte, zbd_some, eq_self, Int.reduceEq, Int.reduceLT, Int.reduceLE, and_self, or_true, true_or, or_false, false_or, if_pos, if_neg, if_true, if_false, true_and, and_true, not_true_eq_false, not_false_eq_true, false_and, and_false, Option.bind_some, zq_t, zq_f, zq0, zq1, zw_id, zy_isSign])
end ZTy
