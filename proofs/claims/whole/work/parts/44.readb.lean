/-! what there is: rows, cells, places, folds -/
section ZRf
variable {d : Nat} {S : zS} {I J K R : zI} {T : Int × Nat} {X M n v l f c k x y z r i p : Int}
/-- the laid line of both, once more -/
def zr_mok (I J : zI) (M l : Int) : Prop := zl_mok (I (M + 1) (1 + l)) (I M 6) (I M 7) (I M 8) (zl_ind (I (M + 1) (1 + l)) (I M 6) (I M 7) (I M 8) (I M 9) (zt_sg (I (M + 1)) l)) (zt_sg (I (M + 1)) l) J M
def zr_pic (I : zI) (M x l : Int) : Prop := zl_pic (I (M + 1) (1 + l)) (I M 6) (I M 7) (I M 8) (zl_ind (I (M + 1) (1 + l)) (I M 6) (I M 7) (I M 8) (I M 9) (zt_sg (I (M + 1)) l)) (zt_sg (I (M + 1)) l) I x
/-- a row of the screen: its line, and which one of that it is -/
theorem zz_rowget (h : zR4 S I R X M) (hf : R X 6 = f) (hr : 0 ≤ r ∧ r < zk_sm (zt_vis (I (M + 1)) (zr_rz I X)) (I (M + 1) 0)) : ∃ v b K0 K1 K2 K3, (0 ≤ v ∧ v < I (M + 1) 0) ∧ (0 ≤ r - b ∧ r - b < I (X + 135 + 11 + 9 * v) 1) ∧ (0 ≤ b ∧ b ≤ 600) ∧ b = zk_sm (zt_vis (I (M + 1)) (zr_rz I X)) v ∧ zG (d + 10) 83 [.inr (.inr (X + 135)), .inr (.inr f), .inl r] (S, I, R, T) = some (v, (S, I, R, T)) ∧ zG (d + 10) 81 [.inr (.inr (X + 135)), .inr (.inr f), .inl v] (S, I, R, T) = some (b, (S, I, R, T)) ∧ zG (d + 10) 194 [.inr (.inr M), .inl r] (S, I, R, T) = some (1, (S, K0, R, T)) ∧ zo_ly I K0 M ∧ zG (d + 10) 185 [.inr (.inr M), .inl r] (S, K0, R, T) = some (v, (S, K1, R, T)) ∧ zG (d + 10) 183 [.inr (.inr M), .inl v] (S, K1, R, T) = some (b, (S, K2, R, T)) ∧ zG (d + 10) 180 [.inr (.inr M), .inl v] (S, K2, R, T) = some (0, (S, K3, R, T)) ∧ zo_ly I K3 M ∧ zr_mok I K3 M v ∧ zr_pic I M (X + 135 + 11 + 9 * v) v := by
  obtain ⟨hc, hm, hap, hall⟩ := id h
  obtain ⟨⟨hrep, hwf⟩, -, hmo, -, hlay, hrz, -, -⟩ := zR4_facts h
  rw [hf] at hrep
  have hF := zcl_fr hc hf
  have oo : zo_ly I I M := zo_ly_refl
  have h0 := hwf.1
  have ht := zt_sm_ir (l := I (M + 1) 0) hrz hwf.2.1 ⟨by omega, Int.le_refl _⟩
  obtain ⟨v, e1, e2⟩ := zzc_lineOfRow (d := d + 6) (I := I) (T := T) (r := r) hc hF hrep hwf hrz (by omega)
  have e3 := e2.resolve_left (fun z => z.1 hr)
  obtain ⟨-, e4, e5, e6⟩ := e3
  obtain ⟨K0, a1, a2⟩ := zzm_isRow (d := d + 1) (T := T) (r := r) hm hmo hwf hrz oo
  obtain ⟨K1, v', b1, b2, b3, b4, b5⟩ := zzm_lineOfRow (d := d + 3) (T := T) hm hmo hwf hrz a2 hr
  have hv : v' = v := zt_line_uniq hrz hwf.2.1 b3 e4 b4 b5 e5 e6
  rw [hv] at b1
  obtain ⟨K2, c1, c2⟩ := zzm_firstRow (d := d + 3) (T := T) hm hmo hwf hrz b2 (l := v) (by omega)
  obtain ⟨K3, d1, d2, d3⟩ := zzm_lays (d := d + 5) (T := T) hm hmo hwf c2 e4
  have fr := zzc_firstRowOf (d := d + 6) (I := I) (T := T) (l := v) hc hF hrep hwf hrz (by omega)
  have hb := zt_sm_ir (l := v) hrz hwf.2.1 ⟨e4.1, by omega⟩
  have hS := zk_smS (g := zt_vis (I (M + 1)) (zr_rz I X)) e4.1
  have hri := zz_rows hrz hwf v e4.1 e4.2
  have hvis : r - zk_sm (zt_vis (I (M + 1)) (zr_rz I X)) v < I (X + 135 + 11 + 9 * v) 1 := by
    by_cases g : zt_hid (I (M + 1)) v
    · rw [hS, zt_vis_t g] at e6
      omega
    · rw [hS, zt_vis_f g] at e6
      have : zr_rz I X v = I (X + 135 + 11 + 9 * v) 1 := rfl
      omega
  rw [zq_t hr] at a1
  exact ⟨v, _, K0, K1, K2, K3, e4, ⟨by omega, hvis⟩, by omega, rfl, e1, fr, a1, a2, b1, c1, d1, d2, d3, hlay v e4.1 e4.2⟩
theorem zz_norow (h : zR4 S I R X M) (hf : R X 6 = f) (hr2 : r < 2147483648) (hr : ¬ (0 ≤ r ∧ r < zk_sm (zt_vis (I (M + 1)) (zr_rz I X)) (I (M + 1) 0))) : ∃ K0, zG (d + 10) 83 [.inr (.inr (X + 135)), .inr (.inr f), .inl r] (S, I, R, T) = some (-1, (S, I, R, T)) ∧ zG (d + 10) 194 [.inr (.inr M), .inl r] (S, I, R, T) = some (0, (S, K0, R, T)) ∧ zo_ly I K0 M := by
  obtain ⟨hc, hm, hap, hall⟩ := id h
  obtain ⟨⟨hrep, hwf⟩, -, hmo, -, hlay, hrz, -, -⟩ := zR4_facts h
  rw [hf] at hrep
  have hF := zcl_fr hc hf
  obtain ⟨v, e1, e2⟩ := zzc_lineOfRow (d := d + 6) (I := I) (T := T) (r := r) hc hF hrep hwf hrz hr2
  have e3 := e2.resolve_right (fun z => hr z.1)
  rw [e3.2] at e1
  obtain ⟨K0, a1, a2⟩ := zzm_isRow (d := d + 1) (T := T) (r := r) hm hmo hwf hrz zo_ly_refl
  rw [zq_f hr] at a1
  exact ⟨K0, e1, a1, a2⟩
/-- numbers of a row of a line that is laid -/
theorem zr_both (hn : 0 ≤ I (M + 1) (1 + l) ∧ I (M + 1) (1 + l) ≤ 40) (hmo : zr_mo I M) (hp : zr_pic I M x l) (hk : zr_mok I K M l) (hr : 0 ≤ k ∧ k < I x 1) : (I x 1 ≤ 41 ∧ (0 ≤ I (x + 7) k ∧ I (x + 7) k ≤ I (x + 7) (k + 1) ∧ I (x + 7) (k + 1) ≤ I (M + 1) (1 + l))) ∧ (K (M + 11) k = I (x + 7) k ∧ K (M + 11) (k + 1) = I (x + 7) (k + 1)) ∧ (∀ i, 0 ≤ i → i ≤ I (M + 1) (1 + l) → K (M + 7) i = I (x + 1) i ∧ K (M + 8) i = I (x + 2) i) ∧ (∀ i, 0 ≤ i → i < I (M + 1) (1 + l) → K (M + 9) i = I (x + 3) i) ∧ (∀ i, 0 ≤ i → i < I (M + 1) (1 + l) → (0 ≤ I (x + 2) i ∧ I (x + 2) i ≤ 400) ∧ 0 ≤ I (x + 3) i ∧ I (x + 3) i ≤ 8) := by
  obtain ⟨u1, u2, u3, u4⟩ := zl_both hn.1 hp hk
  have hi := zz_ind (n := I (M + 1) (1 + l)) (l := l) hmo
  have hw := hmo.1
  have hcol := zl_cols hp.2.2.1 hn hmo.2.1 (by omega)
  have b0 := zl_beg hp.2.2.1 (r := k) (by omega)
  have b1 := zl_beg hp.2.2.1 (r := k + 1) (by omega)
  have mo := zl_mono hp.2.2.1 k (k + 1) hr.1 (by omega) (by omega)
  have hrows := hp.2.2.1.1
  exact ⟨⟨by omega, b0.1, mo, b1.2⟩, ⟨u2 k hr.1 (by omega), u2 (k + 1) (by omega) (by omega)⟩, u3, fun i i1 i2 => (u4 i i1 i2).1, fun i i1 i2 => ⟨(hcol.1 i i1 i2).1, (hcol.1 i i1 i2).2.1⟩⟩
theorem zz_row (h : zR4 S I R X M) (hri : zi_ir r) : zz_ok (d + 11) S I R T X M 113 196 [.inl r, .inl x] := by
  obtain ⟨hc, hm, hap, hall⟩ := id h
  obtain ⟨⟨hrep, hwf⟩, -, hmo, -, hlay, hrz, -, -⟩ := zR4_facts h
  obtain ⟨f, hf⟩ : ∃ f, R X 6 = f := ⟨_, rfl⟩
  have hF := zcl_fr hc hf
  have hr2 := hri.2
  by_cases g1 : 0 ≤ r ∧ r < zk_sm (zt_vis (I (M + 1)) (zr_rz I X)) (I (M + 1) 0)
  · have h0 := hwf.1
    obtain ⟨v, b, Ka, Kb, Kc, Kd, e1, e2, e3, -, e4, e5, e6, e7, e8, e9, e10, e11, e12, e13⟩ := zz_rowget (d := d) (T := T) h hf g1
    have hn := hwf.2.1 v e1.1 e1.2
    have hll := zs_cl_ll hc (show 0 ≤ v ∧ v < 12 by omega)
    obtain ⟨q, hq⟩ : ∃ q, q = X + 135 + 11 + 9 * v := ⟨_, rfl⟩
    have ell : ∀ d, zG (d + 1) 78 [.inr (.inr (X + 135)), .inl v] (S, I, R, T) = some (q, (S, I, R, T)) := fun d => by
      rw [hq]; exact zx_laidLine (zcl_sc hc) (by omega)
    rw [← hq] at e13 hll e2
    have hk4 := hll.2.1
    obtain ⟨⟨n1, n2, n3, n4⟩, ⟨n5, n6⟩, n7, n8, n9⟩ := zr_both hn hmo e13 e12 e2
    by_cases gx : 0 ≤ x ∧ x ≤ 4
    · rcases (show x = 0 ∨ x = 1 ∨ x = 2 ∨ x = 3 ∨ x = 4 by omega) with g | g | g | g | g <;> subst g
      · refine zz_read (v := v) h ?_ (K := Kd) ?_ e11
        · rw [zm_113]
          ((try simp only [zbd_conv]); simp (disch := first | assumption | omega | trivial) only [↓reduceIte, zbd_some, eq_self, Int.reduceEq, Int.reduceLT, Int.reduceLE, and_self, or_true, true_or, or_false, false_or, if_pos, if_neg, if_true, if_false, true_and, and_true, not_true_eq_false, not_false_eq_true, false_and, and_false, Option.bind_some, zq_t, zq_f, zq0, zq1, zw_id, zcl_x1 hc, hf, zfr_k hF, zfr_r0 hF, zfr_r1 hF, zfr_lk hF, zfr_fk hF, zcl_c3 hc, (zcl_sc hc).2.1, e4, ell, e5])
        · rw [zm_196]
          ((try simp only [zbd_conv]); simp (disch := first | assumption | omega | trivial) only [↓reduceIte, zbd_some, eq_self, Int.reduceEq, Int.reduceLT, Int.reduceLE, and_self, or_true, true_or, or_false, false_or, if_pos, if_neg, if_true, if_false, true_and, and_true, not_true_eq_false, not_false_eq_true, false_and, and_false, Option.bind_some, zq_t, zq_f, zq0, zq1, zw_id, zmo_1 hm, zmo_r0 hm, zmo_s1 hm, e6, zy_in, e8, e9, e10])
      · refine zz_read (v := I (q + 7) (r - b)) h ?_ (K := Kd) ?_ e11
        · rw [zm_113]
          ((try simp only [zbd_conv]); simp (disch := first | assumption | omega | trivial) only [↓reduceIte, zbd_some, eq_self, Int.reduceEq, Int.reduceLT, Int.reduceLE, and_self, or_true, true_or, or_false, false_or, if_pos, if_neg, if_true, if_false, true_and, and_true, not_true_eq_false, not_false_eq_true, false_and, and_false, Option.bind_some, zq_t, zq_f, zq0, zq1, zw_id, zcl_x1 hc, hf, zfr_k hF, zfr_r0 hF, zfr_r1 hF, zfr_lk hF, zfr_fk hF, zcl_c3 hc, (zcl_sc hc).2.1, e4, ell, e5, hk4, zx_firstPlace hll, zk_pk_in])
        · rw [zm_196]
          ((try simp only [zbd_conv]); simp (disch := first | assumption | omega | trivial) only [↓reduceIte, zbd_some, eq_self, Int.reduceEq, Int.reduceLT, Int.reduceLE, and_self, or_true, true_or, or_false, false_or, if_pos, if_neg, if_true, if_false, true_and, and_true, not_true_eq_false, not_false_eq_true, false_and, and_false, Option.bind_some, zq_t, zq_f, zq0, zq1, zw_id, zmo_1 hm, zmo_r0 hm, zmo_s1 hm, zmo_r21 hm, zmo_s11 hm, e6, zy_in, e8, e9, e10, n5])
      · refine zz_read (v := I (q + 7) (r - b + 1)) h ?_ (K := Kd) ?_ e11
        · rw [zm_113]
          ((try simp only [zbd_conv]); simp (disch := first | assumption | omega | trivial) only [↓reduceIte, zbd_some, eq_self, Int.reduceEq, Int.reduceLT, Int.reduceLE, and_self, or_true, true_or, or_false, false_or, if_pos, if_neg, if_true, if_false, true_and, and_true, not_true_eq_false, not_false_eq_true, false_and, and_false, Option.bind_some, zq_t, zq_f, zq0, zq1, zw_id, zcl_x1 hc, hf, zfr_k hF, zfr_r0 hF, zfr_r1 hF, zfr_lk hF, zfr_fk hF, zcl_c3 hc, (zcl_sc hc).2.1, e4, ell, e5, hk4, zx_firstPlace hll, zk_pk_in])
        · rw [zm_196]
          ((try simp only [zbd_conv]); simp (disch := first | assumption | omega | trivial) only [↓reduceIte, zbd_some, eq_self, Int.reduceEq, Int.reduceLT, Int.reduceLE, and_self, or_true, true_or, or_false, false_or, if_pos, if_neg, if_true, if_false, true_and, and_true, not_true_eq_false, not_false_eq_true, false_and, and_false, Option.bind_some, zq_t, zq_f, zq0, zq1, zw_id, zmo_1 hm, zmo_r0 hm, zmo_s1 hm, zmo_r21 hm, zmo_s11 hm, e6, zy_in, e8, e9, e10, n6])
      · have e23 : Kd M 23 = I q 2 := e12.2.1.trans e13.2.1.symm
        refine zz_read (v := zl_c0 (I q 2) (r - b)) h ?_ (K := Kd) ?_ e11
        · rw [zm_113]
          ((try simp only [zbd_conv]); simp (disch := first | assumption | omega | trivial) only [↓reduceIte, zbd_some, eq_self, Int.reduceEq, Int.reduceLT, Int.reduceLE, and_self, or_true, true_or, or_false, false_or, if_pos, if_neg, if_true, if_false, true_and, and_true, not_true_eq_false, not_false_eq_true, false_and, and_false, Option.bind_some, zq_t, zq_f, zq0, zq1, zw_id, zcl_x1 hc, hf, zfr_k hF, zfr_r0 hF, zfr_r1 hF, zfr_lk hF, zfr_fk hF, zcl_c3 hc, (zcl_sc hc).2.1, e4, ell, e5, hk4, zx_firstColumn hll])
        · rw [zm_196]
          unfold zl_c0
          by_cases g0 : r - b = 0
          · ((try simp only [zbd_conv]); simp (disch := first | assumption | omega | trivial) only [↓reduceIte, zbd_some, eq_self, Int.reduceEq, Int.reduceLT, Int.reduceLE, and_self, or_true, true_or, or_false, false_or, if_pos, if_neg, if_true, if_false, true_and, and_true, not_true_eq_false, not_false_eq_true, false_and, and_false, Option.bind_some, zq_t, zq_f, zq0, zq1, zw_id, zmo_1 hm, zmo_r0 hm, zmo_s1 hm, e6, zy_in, e8, e9, e10])
          · ((try simp only [zbd_conv]); simp (disch := first | assumption | omega | trivial) only [↓reduceIte, zbd_some, eq_self, Int.reduceEq, Int.reduceLT, Int.reduceLE, and_self, or_true, true_or, or_false, false_or, if_pos, if_neg, if_true, if_false, true_and, and_true, not_true_eq_false, not_false_eq_true, false_and, and_false, Option.bind_some, zq_t, zq_f, zq0, zq1, zw_id, zmo_1 hm, zmo_r0 hm, zmo_s1 hm, e6, zy_in, e8, e9, e10, e23])
      · refine zz_read (v := I (q + 8) (r - b)) h ?_ (K := Kd) ?_ e11
        · rw [zm_113]
          ((try simp only [zbd_conv]); simp (disch := first | assumption | omega | trivial) only [↓reduceIte, zbd_some, eq_self, Int.reduceEq, Int.reduceLT, Int.reduceLE, and_self, or_true, true_or, or_false, false_or, if_pos, if_neg, if_true, if_false, true_and, and_true, not_true_eq_false, not_false_eq_true, false_and, and_false, Option.bind_some, zq_t, zq_f, zq0, zq1, zw_id, zcl_x1 hc, hf, zfr_k hF, zfr_r0 hF, zfr_r1 hF, zfr_lk hF, zfr_fk hF, zcl_c3 hc, (zcl_sc hc).2.1, e4, ell, e5, hk4, zx_columnBehind hll, zk_pk_in])
        · have ec := zy_endColumn (d := d + 9) (I := Kd) (T := T) (k := r - b) hm (by omega) (by rw [n5, n6]; omega) (fun i i1 i2 => by
            rw [n6] at i2
            rw [(n7 i i1 (by omega)).2, n8 i i1 (by omega)]
            have := n9 i i1 (by omega)
            omega)
          have ev : (if Kd (M + 11) (r - b + 1) = 0 then 0 else if Kd (M + 11) (r - b) = Kd (M + 11) (r - b + 1) then Kd (M + 8) (Kd (M + 11) (r - b + 1)) else Kd (M + 8) (Kd (M + 11) (r - b + 1) - 1) + Kd (M + 9) (Kd (M + 11) (r - b + 1) - 1)) = I (q + 8) (r - b) := by
            have u1 := (zl_both hn.1 e13 e12).1
            rw [zl_endcol e12.1 hn.1 (by rw [u1]; exact e2), e13.2.2.2.2.2 (r - b) e2.1 e2.2, n5, n6]
          rw [ev] at ec
          rw [zm_196]
          ((try simp only [zbd_conv]); simp (disch := first | assumption | omega | trivial) only [↓reduceIte, zbd_some, eq_self, Int.reduceEq, Int.reduceLT, Int.reduceLE, and_self, or_true, true_or, or_false, false_or, if_pos, if_neg, if_true, if_false, true_and, and_true, not_true_eq_false, not_false_eq_true, false_and, and_false, Option.bind_some, zq_t, zq_f, zq0, zq1, zw_id, zmo_1 hm, zmo_r0 hm, zmo_s1 hm, e6, zy_in, e8, e9, e10, ec])
    · refine zz_read (v := -1) h ?_ (K := Ka) ?_ e7
      · rw [zm_113]
        ((try simp only [zbd_conv]); simp (disch := first | assumption | omega | trivial) only [↓reduceIte, zbd_some, eq_self, Int.reduceEq, Int.reduceLT, Int.reduceLE, and_self, or_true, true_or, or_false, false_or, if_pos, if_neg, if_true, if_false, true_and, and_true, not_true_eq_false, not_false_eq_true, false_and, and_false, Option.bind_some, zq_t, zq_f, zq0, zq1, zw_id, zcl_x1 hc, hf, zfr_k hF, zfr_r0 hF, zfr_r1 hF, zfr_lk hF, zfr_fk hF, zcl_c3 hc, (zcl_sc hc).2.1, e4, ell, e5])
      · rw [zm_196]
        ((try simp only [zbd_conv]); simp (disch := first | assumption | omega | trivial) only [↓reduceIte, zbd_some, eq_self, Int.reduceEq, Int.reduceLT, Int.reduceLE, and_self, or_true, true_or, or_false, false_or, if_pos, if_neg, if_true, if_false, true_and, and_true, not_true_eq_false, not_false_eq_true, false_and, and_false, Option.bind_some, zq_t, zq_f, zq0, zq1, zw_id, zmo_1 hm, zmo_r0 hm, zmo_s1 hm, e6, zy_in])
  · obtain ⟨K0, a1, a2, a3⟩ := zz_norow (d := d) (T := T) h hf hri.2 g1
    refine zz_read (v := -1) h ?_ (K := K0) ?_ a3
    · rw [zm_113]
      ((try simp only [zbd_conv]); simp (disch := first | assumption | omega | trivial) only [↓reduceIte, zbd_some, eq_self, Int.reduceEq, Int.reduceLT, Int.reduceLE, and_self, or_true, true_or, or_false, false_or, if_pos, if_neg, if_true, if_false, true_and, and_true, not_true_eq_false, not_false_eq_true, false_and, and_false, Option.bind_some, zq_t, zq_f, zq0, zq1, zw_id, zcl_x1 hc, hf, zfr_k hF, zfr_r0 hF, zfr_r1 hF, zfr_lk hF, zfr_fk hF, zcl_c3 hc, (zcl_sc hc).2.1, a1])
    · rw [zm_196]
      ((try simp only [zbd_conv]); simp (disch := first | assumption | omega | trivial) only [↓reduceIte, zbd_some, eq_self, Int.reduceEq, Int.reduceLT, Int.reduceLE, and_self, or_true, true_or, or_false, false_or, if_pos, if_neg, if_true, if_false, true_and, and_true, not_true_eq_false, not_false_eq_true, false_and, and_false, Option.bind_some, zq_t, zq_f, zq0, zq1, zw_id, zmo_1 hm, zmo_r0 hm, zmo_s1 hm, a2])
theorem zz_cell (h : zR4 S I R X M) (hri : zi_ir r) (hci : zi_ir c) : zz_ok (d + 11) S I R T X M 114 197 [.inl r, .inl c] := by
  obtain ⟨hc, hm, hap, hall⟩ := id h
  obtain ⟨⟨hrep, hwf⟩, -, hmo, -, hlay, hrz, -, -⟩ := zR4_facts h
  obtain ⟨f, hf⟩ : ∃ f, R X 6 = f := ⟨_, rfl⟩
  have hF := zcl_fr hc hf
  have hr2 := hri.2
  by_cases g1 : 0 ≤ r ∧ r < zk_sm (zt_vis (I (M + 1)) (zr_rz I X)) (I (M + 1) 0)
  · have h0 := hwf.1
    obtain ⟨v, b, Ka, Kb, Kc, Kd, e1, e2, e3, -, e4, e5, e6, e7, e8, e9, e10, e11, e12, e13⟩ := zz_rowget (d := d) (T := T) h hf g1
    have hn := hwf.2.1 v e1.1 e1.2
    have hll := zs_cl_ll hc (show 0 ≤ v ∧ v < 12 by omega)
    obtain ⟨q, hq⟩ : ∃ q, q = X + 135 + 11 + 9 * v := ⟨_, rfl⟩
    have ell : ∀ d, zG (d + 1) 78 [.inr (.inr (X + 135)), .inl v] (S, I, R, T) = some (q, (S, I, R, T)) := fun d => by
      rw [hq]; exact zx_laidLine (zcl_sc hc) (by omega)
    rw [← hq] at e13 hll e2
    have hk4 := hll.2.1
    obtain ⟨⟨n1, n2, n3, n4⟩, ⟨n5, n6⟩, n7, n8, n9⟩ := zr_both hn hmo e13 e12 e2
    by_cases gc : c < 0
    · refine zz_read (v := -1) h ?_ (K := Ka) ?_ e7
      · rw [zm_114]
        ((try simp only [zbd_conv]); simp (disch := first | assumption | omega | trivial) only [↓reduceIte, zbd_some, eq_self, Int.reduceEq, Int.reduceLT, Int.reduceLE, and_self, or_true, true_or, or_false, false_or, if_pos, if_neg, if_true, if_false, true_and, and_true, not_true_eq_false, not_false_eq_true, false_and, and_false, Option.bind_some, zq_t, zq_f, zq0, zq1, zw_id, zcl_x1 hc, hf, zfr_k hF, zfr_r0 hF, zfr_r1 hF, zfr_lk hF, zfr_fk hF, zcl_c3 hc, (zcl_sc hc).2.1, e4])
      · rw [zm_197]
        ((try simp only [zbd_conv]); simp (disch := first | assumption | omega | trivial) only [↓reduceIte, zbd_some, eq_self, Int.reduceEq, Int.reduceLT, Int.reduceLE, and_self, or_true, true_or, or_false, false_or, if_pos, if_neg, if_true, if_false, true_and, and_true, not_true_eq_false, not_false_eq_true, false_and, and_false, Option.bind_some, zq_t, zq_f, zq0, zq1, zw_id, zmo_1 hm, zmo_r0 hm, zmo_s1 hm, e6])
    · obtain ⟨p, p1, p2⟩ := zx_placeCovering (d := d + 7) (I := I) (T := T) (r := r - b) (x := c) hll (by omega) n2 (by omega) (fun i i1 i2 => by
        have := n9 i (by omega) (by omega)
        omega)
      have key : ∀ (u : Nat) (i : Int) (w : Nat), (u : Int) + i = I (q + 7) (r - b + 1) → I (q + 7) (r - b) ≤ i → (∀ j, I (q + 7) (r - b) ≤ j → j < i → ¬ (I (q + 2) j ≤ c ∧ c < I (q + 2) j + I (q + 3) j)) → u < w → zi_run zt_197 (zG (d + 10)) w 43 [some (.inr (.inr M)), none, some (.inl c), none, some (.inl (r - b)), some (.inl i)] [] (S, Kd, R, T) = some (if p < 0 then -4 else p, (S, Kd, R, T)) := by
        intro u
        induction u with
        | zero =>
          intro i w k1 k2 hp k3
          obtain ⟨w, rfl⟩ : ∃ w', w = w' + 1 := ⟨w - 1, by omega⟩
          have hpe : p = -1 := by
            rcases p2 with ⟨y1, y2, y3, y4⟩ | ⟨y1, y2⟩
            · exact absurd y3 (hp p y1 (by omega))
            · exact y1
          rw [zk_197_43]
          ((try simp only [zbd_conv]); simp (disch := first | assumption | omega | trivial) only [↓reduceIte, zbd_some, eq_self, Int.reduceEq, Int.reduceLT, Int.reduceLE, and_self, or_true, true_or, or_false, false_or, if_pos, if_neg, if_true, if_false, true_and, and_true, not_true_eq_false, not_false_eq_true, false_and, and_false, Option.bind_some, zq_t, zq_f, zq0, zq1, zw_id, zmo_1 hm, zmo_r0 hm, zmo_s1 hm, zmo_r21 hm, zmo_s11 hm, n6])
        | succ u ih =>
          intro i w k1 k2 hp k3
          obtain ⟨w, rfl⟩ : ∃ w', w = w' + 1 := ⟨w - 1, by omega⟩
          have m1 := (n7 i (by omega) (by omega)).2
          have m2 := n8 i (by omega) (by omega)
          have m3 := n9 i (by omega) (by omega)
          rw [zk_197_43]
          by_cases gi : I (q + 2) i ≤ c ∧ c < I (q + 2) i + I (q + 3) i
          · have hpe : p = i := by
              rcases p2 with ⟨y1, y2, y3, y4⟩ | ⟨y1, y2⟩
              · rcases Int.lt_trichotomy p i with y | y | y
                · exact absurd y3 (hp p y1 y)
                · exact y
                · exact absurd gi (y4 i k2 y)
              · exact absurd gi (y2 i k2 (by omega))
            ((try simp only [zbd_conv]); simp (disch := first | assumption | omega | trivial) only [↓reduceIte, zbd_some, eq_self, Int.reduceEq, Int.reduceLT, Int.reduceLE, and_self, or_true, true_or, or_false, false_or, if_pos, if_neg, if_true, if_false, true_and, and_true, not_true_eq_false, not_false_eq_true, false_and, and_false, Option.bind_some, zq_t, zq_f, zq0, zq1, zw_id, zmo_1 hm, zmo_r0 hm, zmo_s1 hm, zmo_r21 hm, zmo_s11 hm, zmo_r18 hm, zmo_s8 hm, zmo_r19 hm, zmo_s9 hm, n6, m1, m2, zy_in])
            rw [hpe]
          · ((try simp only [zbd_conv]); simp (disch := first | assumption | omega | trivial) only [↓reduceIte, zbd_some, eq_self, Int.reduceEq, Int.reduceLT, Int.reduceLE, and_self, or_true, true_or, or_false, false_or, if_pos, if_neg, if_true, if_false, true_and, and_true, not_true_eq_false, not_false_eq_true, false_and, and_false, Option.bind_some, zq_t, zq_f, zq0, zq1, zw_id, zmo_1 hm, zmo_r0 hm, zmo_s1 hm, zmo_r21 hm, zmo_s11 hm, zmo_r18 hm, zmo_s8 hm, zmo_r19 hm, zmo_s9 hm, n6, m1, m2, zy_in])
            exact ih (i + 1) w (by omega) (by omega) (fun j j1 j2 => by
              by_cases hj : j = i
              · rw [hj]; exact gi
              · exact hp j j1 (by omega)) (by omega)
      have start := key (I (q + 7) (r - b + 1) - I (q + 7) (r - b)).toNat (I (q + 7) (r - b)) 19999 (by omega) (Int.le_refl _) (fun j j1 j2 => absurd j1 (by omega)) (by omega)
      have hm2 : zG (d + 11) 197 [.inr (.inr M), .inl r, .inl c] (S, I, R, T) = some (if p < 0 then -4 else p, (S, Kd, R, T)) := by
        rw [zm_197]
        ((try simp only [zbd_conv]); simp (disch := first | assumption | omega | trivial) only [↓reduceIte, zbd_some, eq_self, Int.reduceEq, Int.reduceLT, Int.reduceLE, and_self, or_true, true_or, or_false, false_or, if_pos, if_neg, if_true, if_false, true_and, and_true, not_true_eq_false, not_false_eq_true, false_and, and_false, Option.bind_some, zq_t, zq_f, zq0, zq1, zw_id, zmo_1 hm, zmo_r0 hm, zmo_s1 hm, zmo_r21 hm, zmo_s11 hm, e6, e8, e9, e10, n5])
        exact start
      refine zz_read (v := if p < 0 then -4 else p) h ?_ (K := Kd) hm2 e11
      rw [zm_114]
      by_cases gp : p < 0
      · ((try simp only [zbd_conv]); simp (disch := first | assumption | omega | trivial) only [↓reduceIte, zbd_some, eq_self, Int.reduceEq, Int.reduceLT, Int.reduceLE, and_self, or_true, true_or, or_false, false_or, if_pos, if_neg, if_true, if_false, true_and, and_true, not_true_eq_false, not_false_eq_true, false_and, and_false, Option.bind_some, zq_t, zq_f, zq0, zq1, zw_id, zcl_x1 hc, hf, zfr_k hF, zfr_r0 hF, zfr_r1 hF, zfr_lk hF, zfr_fk hF, zcl_c3 hc, (zcl_sc hc).2.1, e4, ell, e5, hk4, p1])
      · ((try simp only [zbd_conv]); simp (disch := first | assumption | omega | trivial) only [↓reduceIte, zbd_some, eq_self, Int.reduceEq, Int.reduceLT, Int.reduceLE, and_self, or_true, true_or, or_false, false_or, if_pos, if_neg, if_true, if_false, true_and, and_true, not_true_eq_false, not_false_eq_true, false_and, and_false, Option.bind_some, zq_t, zq_f, zq0, zq1, zw_id, zcl_x1 hc, hf, zfr_k hF, zfr_r0 hF, zfr_r1 hF, zfr_lk hF, zfr_fk hF, zcl_c3 hc, (zcl_sc hc).2.1, e4, ell, e5, hk4, p1])
  · obtain ⟨K0, a1, a2, a3⟩ := zz_norow (d := d) (T := T) h hf hri.2 g1
    refine zz_read (v := -1) h ?_ (K := K0) ?_ a3
    · rw [zm_114]
      ((try simp only [zbd_conv]); simp (disch := first | assumption | omega | trivial) only [↓reduceIte, zbd_some, eq_self, Int.reduceEq, Int.reduceLT, Int.reduceLE, and_self, or_true, true_or, or_false, false_or, if_pos, if_neg, if_true, if_false, true_and, and_true, not_true_eq_false, not_false_eq_true, false_and, and_false, Option.bind_some, zq_t, zq_f, zq0, zq1, zw_id, zcl_x1 hc, hf, zfr_k hF, zfr_r0 hF, zfr_r1 hF, zfr_lk hF, zfr_fk hF, zcl_c3 hc, (zcl_sc hc).2.1, a1])
    · rw [zm_197]
      ((try simp only [zbd_conv]); simp (disch := first | assumption | omega | trivial) only [↓reduceIte, zbd_some, eq_self, Int.reduceEq, Int.reduceLT, Int.reduceLE, and_self, or_true, true_or, or_false, false_or, if_pos, if_neg, if_true, if_false, true_and, and_true, not_true_eq_false, not_false_eq_true, false_and, and_false, Option.bind_some, zq_t, zq_f, zq0, zq1, zw_id, zmo_1 hm, zmo_r0 hm, zmo_s1 hm, a2])
/-- the place of a row and a column: both -/
theorem zz_near (hm : zs_mo S R M) (hll : zs_ll S R x) (hmo : zr_mo I M) (hl : 0 ≤ l ∧ l < 12) (hn : 0 ≤ I (M + 1) (1 + l) ∧ I (M + 1) (1 + l) ≤ 40) (hp : zr_pic I M x l) (hk : zr_mok I K M l) (hP1 : K (M + 1) (1 + l) = I (M + 1) (1 + l)) (hP2 : zt_sg (K (M + 1)) l = zt_sg (I (M + 1)) l) (hr : 0 ≤ k ∧ k < I x 1) {y : Int} (hcy : ∀ i, 0 ≤ i → i ≤ I (M + 1) (1 + l) → (I (x + 2) i ≤ c ↔ I (x + 2) i ≤ y)) : ∃ v, zG (d + 3) 47 [.inr (.inr x), .inl k, .inl c] (S, I, R, T) = some (v, (S, I, R, T)) ∧ zG (d + 3) 199 [.inr (.inr M), .inl l, .inl k, .inl y] (S, K, R, T) = some (v, (S, K, R, T)) ∧ zl_lst (I (x + 7) k) (I (M + 1) (1 + l) + 1) (fun i => I (x + 1) i = k ∧ I (x + 5) i = 1 ∧ I (x + 2) i ≤ c) v := by
  obtain ⟨⟨n1, n2, n3, n4⟩, ⟨n5, n6⟩, n7, n8, n9⟩ := zr_both hn hmo hp hk hr
  have hn0 : I x 0 = I (M + 1) (1 + l) := hp.1
  obtain ⟨v, a1, a2⟩ := zx_placeNear (d := d) (I := I) (T := T) (r := k) (x := c) hll (by omega) (by rw [hn0]; omega) (by rw [hn0]; exact hn.2)
  rw [hn0] at a2
  have u1 := (zl_both hn.1 hp hk).1
  have hi := zz_ind (n := I (M + 1) (1 + l)) (l := l) hmo
  have ff := zl_first hk.1 hn.1 hmo.1.1 hmo.2.1.1 hi (r := k) (by rw [u1]; exact hr)
  obtain ⟨v', b1, b2⟩ := zy_placeOf (d := d) (I := K) (T := T) (l := l) (k := k) (c := y) (n := I (M + 1) (1 + l)) hm hl hP1 hn (by omega) (by rw [n5]; omega) (by rw [hP2]; exact ff)
  rw [hP2, n5] at b2
  have hv : v = v' := zl_lst_uniq a2 b2 (fun i i1 i2 => by
    have e1 := n7 i (by omega) (by omega)
    have e2 := zl_stop_both hn.1 hp hk (i := i) (by omega)
    show (I (x + 1) i = k ∧ I (x + 5) i = 1 ∧ I (x + 2) i ≤ c) ↔ (K (M + 7) i = k ∧ zl_isstop _ _ (K (M + 10)) i ∧ K (M + 8) i ≤ y)
    rw [e1.1, e1.2, e2, hcy i (by omega) (by omega)])
  rw [← hv] at b1
  exact ⟨v, a1, b1, a2⟩
theorem zz_to (h : zR4 S I R X M) (hri : zi_ir r) : zz_ok (d + 11) S I R T X M 116 200 [.inl r, .inl c] := by
  obtain ⟨hc, hm, hap, hall⟩ := id h
  obtain ⟨⟨hrep, hwf⟩, -, hmo, -, hlay, hrz, -, -⟩ := zR4_facts h
  obtain ⟨f, hf⟩ : ∃ f, R X 6 = f := ⟨_, rfl⟩
  have hF := zcl_fr hc hf
  have hr2 := hri.2
  by_cases g1 : 0 ≤ r ∧ r < zk_sm (zt_vis (I (M + 1)) (zr_rz I X)) (I (M + 1) 0)
  · have h0 := hwf.1
    obtain ⟨v, b, Ka, Kb, Kc, Kd, e1, e2, e3, -, e4, e5, e6, e7, e8, e9, e10, e11, e12, e13⟩ := zz_rowget (d := d) (T := T) h hf g1
    have hn := hwf.2.1 v e1.1 e1.2
    have hll := zs_cl_ll hc (show 0 ≤ v ∧ v < 12 by omega)
    obtain ⟨q, hq⟩ : ∃ q, q = X + 135 + 11 + 9 * v := ⟨_, rfl⟩
    have ell : ∀ d, zG (d + 1) 78 [.inr (.inr (X + 135)), .inl v] (S, I, R, T) = some (q, (S, I, R, T)) := fun d => by
      rw [hq]; exact zx_laidLine (zcl_sc hc) (by omega)
    rw [← hq] at e13 hll e2
    have hk4 := hll.2.1
    have hP := zo_P e11
    by_cases gc : c < 0
    · refine zz_read (v := -1) h ?_ (K := Ka) ?_ e7
      · rw [zm_116]
        ((try simp only [zbd_conv]); simp (disch := first | assumption | omega | trivial) only [↓reduceIte, zbd_some, eq_self, Int.reduceEq, Int.reduceLT, Int.reduceLE, and_self, or_true, true_or, or_false, false_or, if_pos, if_neg, if_true, if_false, true_and, and_true, not_true_eq_false, not_false_eq_true, false_and, and_false, Option.bind_some, zq_t, zq_f, zq0, zq1, zw_id, zcl_x1 hc, hf, zfr_k hF, zfr_r0 hF, zfr_r1 hF, zfr_lk hF, zfr_fk hF, zcl_c3 hc, (zcl_sc hc).2.1, e4])
      · rw [zm_200]
        ((try simp only [zbd_conv]); simp (disch := first | assumption | omega | trivial) only [↓reduceIte, zbd_some, eq_self, Int.reduceEq, Int.reduceLT, Int.reduceLE, and_self, or_true, true_or, or_false, false_or, if_pos, if_neg, if_true, if_false, true_and, and_true, not_true_eq_false, not_false_eq_true, false_and, and_false, Option.bind_some, zq_t, zq_f, zq0, zq1, zw_id, zmo_1 hm, zmo_r0 hm, zmo_s1 hm, e6])
    · obtain ⟨p, p1, p2, -⟩ := zz_near (d := d + 7) (T := T) (c := c) (y := c) hm hll hmo (by omega) hn e13 e12 (by rw [hP]) (by rw [hP]) e2 (fun _ _ _ => Iff.rfl)
      refine zz_read (v := p) h ?_ (K := Kd) ?_ e11
      · rw [zm_116]
        ((try simp only [zbd_conv]); simp (disch := first | assumption | omega | trivial) only [↓reduceIte, zbd_some, eq_self, Int.reduceEq, Int.reduceLT, Int.reduceLE, and_self, or_true, true_or, or_false, false_or, if_pos, if_neg, if_true, if_false, true_and, and_true, not_true_eq_false, not_false_eq_true, false_and, and_false, Option.bind_some, zq_t, zq_f, zq0, zq1, zw_id, zcl_x1 hc, hf, zfr_k hF, zfr_r0 hF, zfr_r1 hF, zfr_lk hF, zfr_fk hF, zcl_c3 hc, (zcl_sc hc).2.1, e4, ell, e5, hk4, p1])
      · rw [zm_200]
        ((try simp only [zbd_conv]); simp (disch := first | assumption | omega | trivial) only [↓reduceIte, zbd_some, eq_self, Int.reduceEq, Int.reduceLT, Int.reduceLE, and_self, or_true, true_or, or_false, false_or, if_pos, if_neg, if_true, if_false, true_and, and_true, not_true_eq_false, not_false_eq_true, false_and, and_false, Option.bind_some, zq_t, zq_f, zq0, zq1, zw_id, zmo_1 hm, zmo_r0 hm, zmo_s1 hm, e6, e8, e9, e10, p2])
  · obtain ⟨K0, a1, a2, a3⟩ := zz_norow (d := d) (T := T) h hf hri.2 g1
    refine zz_read (v := -1) h ?_ (K := K0) ?_ a3
    · rw [zm_116]
      ((try simp only [zbd_conv]); simp (disch := first | assumption | omega | trivial) only [↓reduceIte, zbd_some, eq_self, Int.reduceEq, Int.reduceLT, Int.reduceLE, and_self, or_true, true_or, or_false, false_or, if_pos, if_neg, if_true, if_false, true_and, and_true, not_true_eq_false, not_false_eq_true, false_and, and_false, Option.bind_some, zq_t, zq_f, zq0, zq1, zw_id, zcl_x1 hc, hf, zfr_k hF, zfr_r0 hF, zfr_r1 hF, zfr_lk hF, zfr_fk hF, zcl_c3 hc, (zcl_sc hc).2.1, a1])
    · rw [zm_200]
      ((try simp only [zbd_conv]); simp (disch := first | assumption | omega | trivial) only [↓reduceIte, zbd_some, eq_self, Int.reduceEq, Int.reduceLT, Int.reduceLE, and_self, or_true, true_or, or_false, false_or, if_pos, if_neg, if_true, if_false, true_and, and_true, not_true_eq_false, not_false_eq_true, false_and, and_false, Option.bind_some, zq_t, zq_f, zq0, zq1, zw_id, zmo_1 hm, zmo_r0 hm, zmo_s1 hm, a2])
end ZRf
