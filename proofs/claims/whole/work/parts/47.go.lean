/-! the caret goes: go, edge -/
section ZMw
variable {d : Nat} {S : zS} {I J K R : zI} {T : Int × Nat} {X M n v l f c k x y z r i p w t m e : Int} {P Q rz : Int → Int}
theorem zzm_laysJ (hm : zs_mo S R M) (hmo : zr_mo I M) (hwf : zw_page (I (M + 1))) (hJ : ∀ q, M ≤ q → J q = I q) (hl : 0 ≤ l ∧ l < I (M + 1) 0) : ∃ K, zG (d + 5) 180 [.inr (.inr M), .inl l] (S, J, R, T) = some (0, (S, K, R, T)) ∧ zo_ly J K M ∧ zr_mok I K M l := by
  have e1 := hJ (M + 1) (by omega)
  have e0 := hJ M (by omega)
  obtain ⟨K, a1, a2, a3⟩ := zzm_lays (d := d) (I := J) (K := J) (T := T) (l := l) hm (by unfold zr_mo at *; rw [e0]; exact hmo) (by rw [e1]; exact hwf) zo_ly_refl (by rw [e1]; exact hl)
  rw [e1, e0] at a3
  exact ⟨K, a1, a2, a3⟩
theorem zt_sg_congr (h1 : Q (1 + l) = P (1 + l)) (h : ∀ i, 0 ≤ i → i < P (1 + l) → Q (13 + 40 * l + i) = P (13 + 40 * l + i)) : zt_sg Q l = zt_sg P l := by
  funext i
  unfold zt_sg
  rw [h1]
  by_cases g : 0 ≤ i ∧ i < P (1 + l)
  · rw [if_pos g, if_pos g]; exact h i g.1 g.2
  · rw [if_neg g, if_neg g]
theorem zl_rows_congr (h : zl_rows P w t m e rz) (hw : zw_page P) (he : ∀ j, j < 493 → Q j = P j) : zl_rows Q w t m e rz := by
  have h0 := hw.1
  intro l l1 l2
  rw [he 0 (by omega)] at l2
  have hn := hw.2.1 l l1 l2
  rw [zt_sg_congr (P := P) (he _ (by omega)) (fun i i1 i2 => he _ (by omega)), he (1 + l) (by omega)]
  exact h l l1 l2
theorem zt_mv (j : Int) (hj : j < 518) : zt_up (zt_up P 518 l) 519 p j = P j := by rw [zt_up_ne (by omega), zt_up_ne (by omega)]
theorem zt_mv8 : zt_up (zt_up P 518 l) 519 p 518 = l := by rw [zt_up_ne (by omega), zt_up_eq rfl]
theorem zt_mv9 : zt_up (zt_up P 518 l) 519 p 519 = p := zt_up_eq rfl
/-- what the object is behind moveCaret -/
def zp_mv (I : zI) (X f l p c : Int) : zI := zi_up (zi_up (zi_up I f 2 l) f 3 p) X 8 c
theorem zp_mv_off {q : Int} (h1 : q ≠ X) (h2 : q ≠ f) : zp_mv I X f l p c q = I q := by
  unfold zp_mv
  rw [zu_off h1, zu_off h2, zu_off h2]
theorem zp_mv_X {j : Int} (h : X ≠ f) (hj : j ≠ 8) : zp_mv I X f l p c X j = I X j := by
  unfold zp_mv
  rw [zu_ne (by omega), zu_ne (by omega), zu_ne (by omega)]
theorem zp_mv_8 : zp_mv I X f l p c X 8 = c := zu_eq ⟨rfl, rfl⟩
theorem zp_mv_f (h : f ≠ X) : zp_mv I X f l p c f = zi_up (zi_up I f 2 l) f 3 p f := zu_off h
theorem zz_go (h : zR4 S I R X M) : zz_ok (d + 11) S I R T X M 119 206 [.inl l, .inl i] := by
  obtain ⟨hc, hm, hap, hall⟩ := id h
  obtain ⟨⟨hrep, hwf⟩, -, hmo, -, hlay, hrz, -, -⟩ := zR4_facts h
  obtain ⟨f, hf⟩ : ∃ f, R X 6 = f := ⟨_, rfl⟩
  rw [hf] at hrep
  have hF := zcl_fr hc hf
  have lof := zs_fa_lo (zcl_fa6 hc hf)
  have h0 := hwf.1
  have oo : zo_ly I I M := zo_ly_refl
  have hpl := fun d => zzc_hasPlace (d := d) (I := I) (T := T) (l := l) (i := i) hF hrep hwf
  by_cases g1 : 0 ≤ l ∧ l < I (M + 1) 0
  · have hn := hwf.2.1 l g1.1 g1.2
    by_cases g2 : 0 ≤ i ∧ i ≤ I (M + 1) (1 + l)
    · have hll := zs_cl_ll hc (show 0 ≤ l ∧ l < 12 by omega)
      obtain ⟨q, hq⟩ : ∃ q, q = X + 135 + 11 + 9 * l := ⟨_, rfl⟩
      have ell : ∀ d, zG (d + 1) 78 [.inr (.inr (X + 135)), .inl l] (S, I, R, T) = some (q, (S, I, R, T)) := fun d => by
        rw [hq]; exact zx_laidLine (zcl_sc hc) (by omega)
      have pic : zr_pic I M q l := by rw [hq]; exact hlay l g1.1 g1.2
      rw [← hq] at hll
      have hk4 := hll.2.1
      obtain ⟨J, b1, b2, b3⟩ := zzm_lays (d := d + 5) (T := T) hm hmo hwf oo g1
      have st := zl_stop_both hn.1 pic b3 g2
      have ms := zy_isStop (d := d + 8) (I := J) (T := T) (l := l) (i := i) (n := I (M + 1) (1 + l)) hm (by omega) (by rw [zo_P b2]) hn g2
      rw [zo_P b2] at ms
      by_cases gh : zt_hid (I (M + 1)) l
      · refine zz_read (v := -2) h ?_ (K := J) ?_ b2
        · rw [zm_119]
          ((try simp only [zbd_conv]); simp (disch := first | assumption | omega | trivial) only [↓reduceIte, zbd_some, eq_self, Int.reduceEq, Int.reduceLT, Int.reduceLE, and_self, or_true, true_or, or_false, false_or, if_pos, if_neg, if_true, if_false, true_and, and_true, not_true_eq_false, not_false_eq_true, false_and, and_false, Option.bind_some, zq_t, zq_f, zq0, zq1, zw_id, zcl_x1 hc, hf, zfr_k hF, zfr_r0 hF, zfr_r1 hF, zfr_lk hF, zfr_fk hF, zcl_c3 hc, (zcl_sc hc).2.1, hpl, zzc_hides hF hrep hwf])
        · rw [zm_206]
          ((try simp only [zbd_conv]); simp (disch := first | assumption | omega | trivial) only [↓reduceIte, zbd_some, eq_self, Int.reduceEq, Int.reduceLT, Int.reduceLE, and_self, or_true, true_or, or_false, false_or, if_pos, if_neg, if_true, if_false, true_and, and_true, not_true_eq_false, not_false_eq_true, false_and, and_false, Option.bind_some, zq_t, zq_f, zq0, zq1, zw_id, zmo_1 hm, zmo_r0 hm, zmo_s1 hm, zzm_isLine hm hwf oo, zzm_len hm hwf oo, zy_in, b1, zzm_isHidden hm hwf b2])
      · by_cases gs : I (q + 5) i = 1
        · obtain ⟨c, hcc⟩ : ∃ c, c = I (q + 2) i := ⟨_, rfl⟩
          have mv := zx_moveCaret (d := d + 6) (I := I) (T := T) (l := l) (p := i) hc hf (by omega) (by omega)
          rw [← hq, ← hcc] at mv
          have mv' : zG (d + 10) 141 [.inr (.inr X), .inl l, .inl i] (S, I, R, T) = some (0, (S, zp_mv I X f l i c, R, T)) := mv
          obtain ⟨J1, hJ1⟩ : ∃ J1, J1 = zp_mv I X f l i c := ⟨_, rfl⟩
          rw [← hJ1] at mv'
          have j1 : ∀ q, q ≠ X → q ≠ f → J1 q = I q := fun q q1 q2 => by rw [hJ1]; exact zp_mv_off q1 q2
          have jM : ∀ q, M ≤ q → J1 q = I q := fun q q1 => j1 q (by omega) (by omega)
          have rc := zv_rep_caret (l := l) (p := i) hrep hwf g1 g2
          obtain ⟨P', hP'⟩ : ∃ P', P' = zt_up (zt_up (I (M + 1)) 518 l) 519 i := ⟨_, rfl⟩
          have lo' : ∀ j, j < 518 → P' j = I (M + 1) j := fun j hj => by rw [hP']; exact zt_mv j hj
          have p8 : P' 518 = l := by rw [hP']; exact zt_mv8
          have p9 : P' 519 = i := by rw [hP']; exact zt_mv9
          rw [← hP'] at rc
          have rep1 : zv_rep J1 f P' := zv_rep_congr rc.1 (fun q q1 q2 => by rw [hJ1]; exact zu_off (by omega))
          have rzJ : zr_rz J1 X = zr_rz I X := by
            funext k
            unfold zr_rz
            by_cases gk : X + 135 + 11 + 9 * k = X ∨ X + 135 + 11 + 9 * k = f
            · rw [hJ1]
              unfold zp_mv
              rcases gk with gk | gk
              · rw [zu_ne (by omega), zu_ne (by omega), zu_ne (by omega)]
              · rw [zu_ne (by omega), zu_ne (by omega), zu_ne (by omega)]
            · rw [j1 _ (by omega) (by omega)]
          have rz1 : zl_rows P' (I M 6) (I M 7) (I M 8) (I M 9) (zr_rz J1 X) := by rw [rzJ]; exact zl_rows_congr hrz hwf (fun j hj => lo' j (by omega))
          have hw4 := hmo.1
          have hi := zz_ind (n := I (M + 1) (1 + l)) (l := l) hmo
          have prow := zl_pic_row pic hn hmo.2.1 (by omega) g2
          have jq1 : J1 (q + 1) = I (q + 1) := j1 _ (by omega) (by omega)
          have cr := zzc_caretRow (d := d + 4) (I := J1) (T := T) hc hf rep1 rc.2 rz1 (by rw [p8, p9, ← hq, jq1]; omega)
          rw [p8, p9, ← hq, jq1, rzJ] at cr
          obtain ⟨K0, d1, d2, d3⟩ := zzm_laysJ (d := d + 5) (T := T) hm hmo hwf jM g1
          have k0P : K0 (M + 1) = I (M + 1) := (d2.1 (M + 1) (by omega) (by omega)).trans (jM _ (by omega))
          have k0q : ∀ q, M + 2 ≤ q → (q < M + 7 ∨ M + 11 < q) → K0 q = I q := fun q q1 q2 => (d2.1 q (by omega) q2).trans (jM q (by omega))
          have k0M : ∀ j, j ≠ 22 → j ≠ 23 → K0 M j = I M j := fun j j1 j2 => by rw [d2.2 j j1 j2, jM M (by omega)]
          have ms0 := zy_isStop (d := d + 8) (I := K0) (T := T) (l := l) (i := i) (n := I (M + 1) (1 + l)) hm (by omega) (by rw [k0P]) hn g2
          rw [k0P, zq_t ((zl_stop_both hn.1 pic d3 g2).mp gs)] at ms0
          have mh0 := zy_isHidden (d := d + 8) (I := K0) (T := T) (l := l) hm (by rw [k0P]; exact hwf.2.2.1.2)
          rw [k0P, zq_f gh] at mh0
          obtain ⟨K1, hK1⟩ : ∃ K1, K1 = zi_up (zi_up K0 (M + 1) 518 l) (M + 1) 519 i := ⟨_, rfl⟩
          have k1P : K1 (M + 1) = P' := by rw [hK1, zu_row, zu_row, k0P, hP']
          have k1o : ∀ q, q ≠ M + 1 → K1 q = K0 q := fun q hq => by rw [hK1, zu_off hq, zu_off hq]
          obtain ⟨K2, f1, f2, f3, f4, f5, f6⟩ := zzm_put (d := d + 4) (T := T) h g1 g2 (by rw [← hq]; exact gs) (K0 := K1) (fun q q1 q2 => (k1o q (by omega)).trans (k0q q q1 q2)) (fun j j1 j2 => by rw [k1o M (by omega)]; exact k0M j j1 j2) (by rw [k1P, hP'])
          rw [← hq, ← hcc] at f6
          rw [← hP'] at f4
          have e6 := f5 6 (by omega) (by omega) (by omega)
          have e7 := f5 7 (by omega) (by omega) (by omega)
          have e8 := f5 8 (by omega) (by omega) (by omega)
          have e9 := f5 9 (by omega) (by omega) (by omega)
          obtain ⟨K3, y1, y2⟩ := zzm_caretRow (d := d + 2) (I := K2) (T := T) (J := I) (x := q) (rz := zr_rz I X) hm (by unfold zr_mo at *; rw [e6, e7, e8, e9]; exact hmo) (by rw [f4]; exact rc.2) (by rw [f4, e6, e7, e8, e9, ← rzJ]; exact rz1) (by
            rw [f4, p8, e6, e7, e8, e9, lo' (1 + l) (by omega), zt_sg_congr (P := I (M + 1)) (lo' _ (by omega)) (fun i i1 i2 => lo' _ (by omega))]
            exact pic)
          rw [f4, p8, p9] at y1
          have rel : zR4 S K2 R X M := by
            refine zR4_move h hf g1 g2 (c := c) (fun q q1 q2 q3 => ?_) (fun j hj => ?_) ?_ ?_ f3 (by rw [f4, hP']) f5 f6
            · rw [f2 q q3, k1o q (by omega), d2.1 q (by omega) (by omega), j1 q q1 q2]
            · rw [f2 X (by omega), k1o X (by omega), d2.1 X (by omega) (by omega), hJ1, zp_mv_X (by omega) hj]
            · rw [f2 X (by omega), k1o X (by omega), d2.1 X (by omega) (by omega), hJ1, zp_mv_8]
            · rw [f2 f (by omega), k1o f (by omega), d2.1 f (by omega) (by omega), hJ1, zp_mv_f (by omega)]
          refine ⟨zk_sm (zt_vis P' (zr_rz I X)) l + I (q + 1) i, J1, R, K3, ?_, ?_, zR4_ly rel y2⟩
          · rw [zm_119]
            ((try simp only [zbd_conv]); simp (disch := first | assumption | omega | trivial) only [↓reduceIte, zbd_some, eq_self, Int.reduceEq, Int.reduceLT, Int.reduceLE, and_self, or_true, true_or, or_false, false_or, if_pos, if_neg, if_true, if_false, true_and, and_true, not_true_eq_false, not_false_eq_true, false_and, and_false, Option.bind_some, zq_t, zq_f, zq0, zq1, zw_id, zcl_x1 hc, hf, zfr_k hF, zfr_r0 hF, zfr_r1 hF, zfr_lk hF, zfr_fk hF, zcl_c3 hc, (zcl_sc hc).2.1, hpl, zzc_hides hF hrep hwf, ell, hk4, zx_isStop hll, zk_pk_in, mv', cr])
          · have isl := zzm_isLine (d := d + 8) (I := J1) (K := J1) (T := T) (l := l) hm (by rw [jM _ (by omega)]; exact hwf) zo_ly_refl
            have len := zzm_len (d := d + 9) (I := J1) (K := J1) (T := T) (l := l) hm (by rw [jM _ (by omega)]; exact hwf) zo_ly_refl (by rw [jM _ (by omega)]; exact g1)
            rw [jM _ (by omega)] at isl len
            rw [hK1] at f1
            rw [zm_206]
            ((try simp only [zbd_conv]); simp (disch := first | assumption | omega | trivial) only [↓reduceIte, zbd_some, eq_self, Int.reduceEq, Int.reduceLT, Int.reduceLE, and_self, or_true, true_or, or_false, false_or, if_pos, if_neg, if_true, if_false, true_and, and_true, not_true_eq_false, not_false_eq_true, false_and, and_false, Option.bind_some, zq_t, zq_f, zq0, zq1, zw_id, zmo_1 hm, zmo_r0 hm, zmo_s1 hm, isl, len, zy_in, d1, mh0, ms0, zwr, f1, y1])
        · have gs2 : ¬ zl_isstop (I (M + 1) (1 + l)) (zt_sg (I (M + 1)) l) (J (M + 10)) i := fun z => gs (st.mpr z)
          refine zz_read (v := -2) h ?_ (K := J) ?_ b2
          · rw [zm_119]
            ((try simp only [zbd_conv]); simp (disch := first | assumption | omega | trivial) only [↓reduceIte, zbd_some, eq_self, Int.reduceEq, Int.reduceLT, Int.reduceLE, and_self, or_true, true_or, or_false, false_or, if_pos, if_neg, if_true, if_false, true_and, and_true, not_true_eq_false, not_false_eq_true, false_and, and_false, Option.bind_some, zq_t, zq_f, zq0, zq1, zw_id, zcl_x1 hc, hf, zfr_k hF, zfr_r0 hF, zfr_r1 hF, zfr_lk hF, zfr_fk hF, zcl_c3 hc, (zcl_sc hc).2.1, hpl, zzc_hides hF hrep hwf, ell, hk4, zx_isStop hll, zk_pk_in])
          · rw [zm_206]
            ((try simp only [zbd_conv]); simp (disch := first | assumption | omega | trivial) only [↓reduceIte, zbd_some, eq_self, Int.reduceEq, Int.reduceLT, Int.reduceLE, and_self, or_true, true_or, or_false, false_or, if_pos, if_neg, if_true, if_false, true_and, and_true, not_true_eq_false, not_false_eq_true, false_and, and_false, Option.bind_some, zq_t, zq_f, zq0, zq1, zw_id, zmo_1 hm, zmo_r0 hm, zmo_s1 hm, zzm_isLine hm hwf oo, zzm_len hm hwf oo, zy_in, b1, zzm_isHidden hm hwf b2, ms])
    · refine zz_read (v := -1) h ?_ ?_ oo
      · rw [zm_119]
        ((try simp only [zbd_conv]); simp (disch := first | assumption | omega | trivial) only [↓reduceIte, zbd_some, eq_self, Int.reduceEq, Int.reduceLT, Int.reduceLE, and_self, or_true, true_or, or_false, false_or, if_pos, if_neg, if_true, if_false, true_and, and_true, not_true_eq_false, not_false_eq_true, false_and, and_false, Option.bind_some, zq_t, zq_f, zq0, zq1, zw_id, zcl_x1 hc, hf, zfr_k hF, zfr_r0 hF, zfr_r1 hF, zfr_lk hF, zfr_fk hF, zcl_c3 hc, (zcl_sc hc).2.1, hpl])
      · rw [zm_206]
        ((try simp only [zbd_conv]); simp (disch := first | assumption | omega | trivial) only [↓reduceIte, zbd_some, eq_self, Int.reduceEq, Int.reduceLT, Int.reduceLE, and_self, or_true, true_or, or_false, false_or, if_pos, if_neg, if_true, if_false, true_and, and_true, not_true_eq_false, not_false_eq_true, false_and, and_false, Option.bind_some, zq_t, zq_f, zq0, zq1, zw_id, zmo_1 hm, zmo_r0 hm, zmo_s1 hm, zzm_isLine hm hwf oo, zzm_len hm hwf oo, zy_in])
  · refine zz_read (v := -1) h ?_ ?_ oo
    · rw [zm_119]
      ((try simp only [zbd_conv]); simp (disch := first | assumption | omega | trivial) only [↓reduceIte, zbd_some, eq_self, Int.reduceEq, Int.reduceLT, Int.reduceLE, and_self, or_true, true_or, or_false, false_or, if_pos, if_neg, if_true, if_false, true_and, and_true, not_true_eq_false, not_false_eq_true, false_and, and_false, Option.bind_some, zq_t, zq_f, zq0, zq1, zw_id, zcl_x1 hc, hf, zfr_k hF, zfr_r0 hF, zfr_r1 hF, zfr_lk hF, zfr_fk hF, zcl_c3 hc, (zcl_sc hc).2.1, hpl])
    · rw [zm_206]
      ((try simp only [zbd_conv]); simp (disch := first | assumption | omega | trivial) only [↓reduceIte, zbd_some, eq_self, Int.reduceEq, Int.reduceLT, Int.reduceLE, and_self, or_true, true_or, or_false, false_or, if_pos, if_neg, if_true, if_false, true_and, and_true, not_true_eq_false, not_false_eq_true, false_and, and_false, Option.bind_some, zq_t, zq_f, zq0, zq1, zw_id, zmo_1 hm, zmo_r0 hm, zmo_s1 hm, zzm_isLine hm hwf oo])
end ZMw
