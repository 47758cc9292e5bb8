/-! the object alone: rows, cells, places, the caret -/
section ZA2
variable {d : Nat} {S : zS} {I J R : zI} {T : Int × Nat} {X n v l f c k x y z r i j p w t m e a b : Int} {P Q : Int → Int}
theorem zA_row0 (h : zA_now S I R X P w t m e) (hv : 0 ≤ v ∧ v < P 0) (h1 : zA_B I X P v ≤ r) (h2 : r < zA_B I X P (v + 1)) : zG (d + 10) 105 [.inr (.inr X), .inl r, .inl 0] (S, I, R, T) = some (v, (S, I, R, T)) := by
  obtain ⟨hc, ⟨hrep, hwf⟩, hset, hlay⟩ := id h; obtain ⟨f, hf⟩ : ∃ f, R X 6 = f := ⟨_, rfl⟩; rw [hf] at hrep; have hF := zcl_fr hc hf; have hrz := zA_rz h; have h0 := hwf.1
  have hll := zs_cl_ll hc (show 0 ≤ v ∧ v < 12 by omega); have hk4 := hll.2.1; have ell : ∀ d, zG (d + 1) 77 [.inr (.inr (X + 135)), .inl v] (S, I, R, T) = some (X + 135 + 11 + 9 * v, (S, I, R, T)) := fun d => zx_laidLine (zcl_sc hc) (by omega); have hb := zA_Bi h (v := v) (by omega); obtain ⟨nh, k1, k2, k3, k4⟩ := zA_Bv h hv h1 h2; have nr := zA_nrows h hv; have lor := fun d => zA_lor (d := d) (T := T) h hf hv h1 h2; have fro := fun d => zA_fro (d := d) (T := T) h hf (v := v) (by omega); have bt := zA_Bt h
  rw [zm_105]
  ((try simp only [zbd_conv]); simp (disch := first | assumption | omega | trivial) only [↓reduceIte, zbd_some, eq_self, Int.reduceEq, Int.reduceLT, Int.reduceLE, and_self, or_true, true_or, or_false, false_or, if_pos, if_neg, if_true, if_false, true_and, and_true, not_true_eq_false, not_false_eq_true, false_and, and_false, Option.bind_some, zq_t, zq_f, zq0, zq1, zw_id, zcl_x1 hc, hf, zfr_k hF, zfr_r0 hF, zfr_r1 hF, zfr_lk hF, zfr_fk hF, zcl_c3 hc, (zcl_sc hc).2.1, lor, ell, fro])
theorem zA_row1 (h : zA_now S I R X P w t m e) (hv : 0 ≤ v ∧ v < P 0) (h1 : zA_B I X P v ≤ r) (h2 : r < zA_B I X P (v + 1)) : zG (d + 10) 105 [.inr (.inr X), .inl r, .inl 1] (S, I, R, T) = some (I (X + 135 + 11 + 9 * v + 7) (r - zA_B I X P v), (S, I, R, T)) := by
  obtain ⟨hc, ⟨hrep, hwf⟩, hset, hlay⟩ := id h; obtain ⟨f, hf⟩ : ∃ f, R X 6 = f := ⟨_, rfl⟩; rw [hf] at hrep; have hF := zcl_fr hc hf; have hrz := zA_rz h; have h0 := hwf.1
  have hll := zs_cl_ll hc (show 0 ≤ v ∧ v < 12 by omega); have hk4 := hll.2.1; have ell : ∀ d, zG (d + 1) 77 [.inr (.inr (X + 135)), .inl v] (S, I, R, T) = some (X + 135 + 11 + 9 * v, (S, I, R, T)) := fun d => zx_laidLine (zcl_sc hc) (by omega); have hb := zA_Bi h (v := v) (by omega); obtain ⟨nh, k1, k2, k3, k4⟩ := zA_Bv h hv h1 h2; have nr := zA_nrows h hv; have lor := fun d => zA_lor (d := d) (T := T) h hf hv h1 h2; have fro := fun d => zA_fro (d := d) (T := T) h hf (v := v) (by omega); have bt := zA_Bt h
  rw [zm_105]
  ((try simp only [zbd_conv]); simp (disch := first | assumption | omega | trivial) only [↓reduceIte, zbd_some, eq_self, Int.reduceEq, Int.reduceLT, Int.reduceLE, and_self, or_true, true_or, or_false, false_or, if_pos, if_neg, if_true, if_false, true_and, and_true, not_true_eq_false, not_false_eq_true, false_and, and_false, Option.bind_some, zq_t, zq_f, zq0, zq1, zw_id, zcl_x1 hc, hf, zfr_k hF, zfr_r0 hF, zfr_r1 hF, zfr_lk hF, zfr_fk hF, zcl_c3 hc, (zcl_sc hc).2.1, lor, ell, fro, hk4, zx_firstPlace hll, zk_pk_in])
theorem zA_row2 (h : zA_now S I R X P w t m e) (hv : 0 ≤ v ∧ v < P 0) (h1 : zA_B I X P v ≤ r) (h2 : r < zA_B I X P (v + 1)) : zG (d + 10) 105 [.inr (.inr X), .inl r, .inl 2] (S, I, R, T) = some (I (X + 135 + 11 + 9 * v + 7) (r - zA_B I X P v + 1), (S, I, R, T)) := by
  obtain ⟨hc, ⟨hrep, hwf⟩, hset, hlay⟩ := id h; obtain ⟨f, hf⟩ : ∃ f, R X 6 = f := ⟨_, rfl⟩; rw [hf] at hrep; have hF := zcl_fr hc hf; have hrz := zA_rz h; have h0 := hwf.1
  have hll := zs_cl_ll hc (show 0 ≤ v ∧ v < 12 by omega); have hk4 := hll.2.1; have ell : ∀ d, zG (d + 1) 77 [.inr (.inr (X + 135)), .inl v] (S, I, R, T) = some (X + 135 + 11 + 9 * v, (S, I, R, T)) := fun d => zx_laidLine (zcl_sc hc) (by omega); have hb := zA_Bi h (v := v) (by omega); obtain ⟨nh, k1, k2, k3, k4⟩ := zA_Bv h hv h1 h2; have nr := zA_nrows h hv; have lor := fun d => zA_lor (d := d) (T := T) h hf hv h1 h2; have fro := fun d => zA_fro (d := d) (T := T) h hf (v := v) (by omega); have bt := zA_Bt h
  rw [zm_105]
  ((try simp only [zbd_conv]); simp (disch := first | assumption | omega | trivial) only [↓reduceIte, zbd_some, eq_self, Int.reduceEq, Int.reduceLT, Int.reduceLE, and_self, or_true, true_or, or_false, false_or, if_pos, if_neg, if_true, if_false, true_and, and_true, not_true_eq_false, not_false_eq_true, false_and, and_false, Option.bind_some, zq_t, zq_f, zq0, zq1, zw_id, zcl_x1 hc, hf, zfr_k hF, zfr_r0 hF, zfr_r1 hF, zfr_lk hF, zfr_fk hF, zcl_c3 hc, (zcl_sc hc).2.1, lor, ell, fro, hk4, zx_firstPlace hll, zk_pk_in])
theorem zA_row3 (h : zA_now S I R X P w t m e) (hv : 0 ≤ v ∧ v < P 0) (h1 : zA_B I X P v ≤ r) (h2 : r < zA_B I X P (v + 1)) : zG (d + 10) 105 [.inr (.inr X), .inl r, .inl 3] (S, I, R, T) = some (zl_c0 (I (X + 135 + 11 + 9 * v) 2) (r - zA_B I X P v), (S, I, R, T)) := by
  obtain ⟨hc, ⟨hrep, hwf⟩, hset, hlay⟩ := id h; obtain ⟨f, hf⟩ : ∃ f, R X 6 = f := ⟨_, rfl⟩; rw [hf] at hrep; have hF := zcl_fr hc hf; have hrz := zA_rz h; have h0 := hwf.1
  have hll := zs_cl_ll hc (show 0 ≤ v ∧ v < 12 by omega); have hk4 := hll.2.1; have ell : ∀ d, zG (d + 1) 77 [.inr (.inr (X + 135)), .inl v] (S, I, R, T) = some (X + 135 + 11 + 9 * v, (S, I, R, T)) := fun d => zx_laidLine (zcl_sc hc) (by omega); have hb := zA_Bi h (v := v) (by omega); obtain ⟨nh, k1, k2, k3, k4⟩ := zA_Bv h hv h1 h2; have nr := zA_nrows h hv; have lor := fun d => zA_lor (d := d) (T := T) h hf hv h1 h2; have fro := fun d => zA_fro (d := d) (T := T) h hf (v := v) (by omega); have bt := zA_Bt h
  rw [zm_105]
  ((try simp only [zbd_conv]); simp (disch := first | assumption | omega | trivial) only [↓reduceIte, zbd_some, eq_self, Int.reduceEq, Int.reduceLT, Int.reduceLE, and_self, or_true, true_or, or_false, false_or, if_pos, if_neg, if_true, if_false, true_and, and_true, not_true_eq_false, not_false_eq_true, false_and, and_false, Option.bind_some, zq_t, zq_f, zq0, zq1, zw_id, zcl_x1 hc, hf, zfr_k hF, zfr_r0 hF, zfr_r1 hF, zfr_lk hF, zfr_fk hF, zcl_c3 hc, (zcl_sc hc).2.1, lor, ell, fro, hk4, zx_firstColumn hll])
theorem zA_row4 (h : zA_now S I R X P w t m e) (hv : 0 ≤ v ∧ v < P 0) (h1 : zA_B I X P v ≤ r) (h2 : r < zA_B I X P (v + 1)) : zG (d + 10) 105 [.inr (.inr X), .inl r, .inl 4] (S, I, R, T) = some (I (X + 135 + 11 + 9 * v + 8) (r - zA_B I X P v), (S, I, R, T)) := by
  obtain ⟨hc, ⟨hrep, hwf⟩, hset, hlay⟩ := id h; obtain ⟨f, hf⟩ : ∃ f, R X 6 = f := ⟨_, rfl⟩; rw [hf] at hrep; have hF := zcl_fr hc hf; have hrz := zA_rz h; have h0 := hwf.1
  have hll := zs_cl_ll hc (show 0 ≤ v ∧ v < 12 by omega); have hk4 := hll.2.1; have ell : ∀ d, zG (d + 1) 77 [.inr (.inr (X + 135)), .inl v] (S, I, R, T) = some (X + 135 + 11 + 9 * v, (S, I, R, T)) := fun d => zx_laidLine (zcl_sc hc) (by omega); have hb := zA_Bi h (v := v) (by omega); obtain ⟨nh, k1, k2, k3, k4⟩ := zA_Bv h hv h1 h2; have nr := zA_nrows h hv; have lor := fun d => zA_lor (d := d) (T := T) h hf hv h1 h2; have fro := fun d => zA_fro (d := d) (T := T) h hf (v := v) (by omega); have bt := zA_Bt h
  rw [zm_105]
  ((try simp only [zbd_conv]); simp (disch := first | assumption | omega | trivial) only [↓reduceIte, zbd_some, eq_self, Int.reduceEq, Int.reduceLT, Int.reduceLE, and_self, or_true, true_or, or_false, false_or, if_pos, if_neg, if_true, if_false, true_and, and_true, not_true_eq_false, not_false_eq_true, false_and, and_false, Option.bind_some, zq_t, zq_f, zq0, zq1, zw_id, zcl_x1 hc, hf, zfr_k hF, zfr_r0 hF, zfr_r1 hF, zfr_lk hF, zfr_fk hF, zcl_c3 hc, (zcl_sc hc).2.1, lor, ell, fro, hk4, zx_columnBehind hll, zk_pk_in])
theorem zA_cell (h : zA_now S I R X P w t m e) (hv : 0 ≤ v ∧ v < P 0) (h1 : zA_B I X P v ≤ r) (h2 : r < zA_B I X P (v + 1)) (hx : 0 ≤ c) : ∃ p, zG (d + 10) 106 [.inr (.inr X), .inl r, .inl c] (S, I, R, T) = some (if p < 0 then -4 else p, (S, I, R, T)) ∧ zl_fst (I (X + 135 + 11 + 9 * v + 7) (r - zA_B I X P v)) (I (X + 135 + 11 + 9 * v + 7) (r - zA_B I X P v + 1)) (fun i => I (X + 135 + 11 + 9 * v + 2) i ≤ c ∧ c < I (X + 135 + 11 + 9 * v + 2) i + I (X + 135 + 11 + 9 * v + 3) i) p := by
  obtain ⟨hc, ⟨hrep, hwf⟩, hset, hlay⟩ := id h; obtain ⟨f, hf⟩ : ∃ f, R X 6 = f := ⟨_, rfl⟩; rw [hf] at hrep; have hF := zcl_fr hc hf; have hrz := zA_rz h; have h0 := hwf.1
  have hll := zs_cl_ll hc (show 0 ≤ v ∧ v < 12 by omega); have hk4 := hll.2.1; have ell : ∀ d, zG (d + 1) 77 [.inr (.inr (X + 135)), .inl v] (S, I, R, T) = some (X + 135 + 11 + 9 * v, (S, I, R, T)) := fun d => zx_laidLine (zcl_sc hc) (by omega); have hb := zA_Bi h (v := v) (by omega); obtain ⟨nh, k1, k2, k3, k4⟩ := zA_Bv h hv h1 h2; have nr := zA_nrows h hv; have lor := fun d => zA_lor (d := d) (T := T) h hf hv h1 h2; have fro := fun d => zA_fro (d := d) (T := T) h hf (v := v) (by omega); have bt := zA_Bt h
  have pic := zA_pic h hv
  have hn := zA_len h hv
  have st := zA_st h
  have hi := zA_ind h (n := P (1 + v)) (l := v)
  have hcol := zl_cols pic.2.2.1 hn st.2.1 (by omega)
  have b0 := zl_beg pic.2.2.1 (r := r - zA_B I X P v) (by omega)
  have b1 := zl_beg pic.2.2.1 (r := r - zA_B I X P v + 1) (by omega)
  obtain ⟨p, p1, p2⟩ := zx_placeCovering (d := d + 6) (I := I) (T := T) (r := r - zA_B I X P v) (x := c) hll (by omega) b0.1 (by omega) (fun i i1 i2 => by
    have := hcol.1 i (by omega) (by omega)
    omega)
  refine ⟨p, ?_, p2⟩
  rw [zm_106]
  by_cases gp : p < 0
  · ((try simp only [zbd_conv]); simp (disch := first | assumption | omega | trivial) only [↓reduceIte, zbd_some, eq_self, Int.reduceEq, Int.reduceLT, Int.reduceLE, and_self, or_true, true_or, or_false, false_or, if_pos, if_neg, if_true, if_false, true_and, and_true, not_true_eq_false, not_false_eq_true, false_and, and_false, Option.bind_some, zq_t, zq_f, zq0, zq1, zw_id, zcl_x1 hc, hf, zfr_k hF, zfr_r0 hF, zfr_r1 hF, zfr_lk hF, zfr_fk hF, zcl_c3 hc, (zcl_sc hc).2.1, lor, ell, fro, hk4, p1])
  · ((try simp only [zbd_conv]); simp (disch := first | assumption | omega | trivial) only [↓reduceIte, zbd_some, eq_self, Int.reduceEq, Int.reduceLT, Int.reduceLE, and_self, or_true, true_or, or_false, false_or, if_pos, if_neg, if_true, if_false, true_and, and_true, not_true_eq_false, not_false_eq_true, false_and, and_false, Option.bind_some, zq_t, zq_f, zq0, zq1, zw_id, zcl_x1 hc, hf, zfr_k hF, zfr_r0 hF, zfr_r1 hF, zfr_lk hF, zfr_fk hF, zcl_c3 hc, (zcl_sc hc).2.1, lor, ell, fro, hk4, p1])
theorem zA_to (h : zA_now S I R X P w t m e) (hv : 0 ≤ v ∧ v < P 0) (h1 : zA_B I X P v ≤ r) (h2 : r < zA_B I X P (v + 1)) (hx : 0 ≤ c) : ∃ p, zG (d + 10) 108 [.inr (.inr X), .inl r, .inl c] (S, I, R, T) = some (p, (S, I, R, T)) ∧ zl_lst (I (X + 135 + 11 + 9 * v + 7) (r - zA_B I X P v)) (P (1 + v) + 1) (fun i => I (X + 135 + 11 + 9 * v + 1) i = r - zA_B I X P v ∧ I (X + 135 + 11 + 9 * v + 5) i = 1 ∧ I (X + 135 + 11 + 9 * v + 2) i ≤ c) p := by
  obtain ⟨hc, ⟨hrep, hwf⟩, hset, hlay⟩ := id h; obtain ⟨f, hf⟩ : ∃ f, R X 6 = f := ⟨_, rfl⟩; rw [hf] at hrep; have hF := zcl_fr hc hf; have hrz := zA_rz h; have h0 := hwf.1
  have hll := zs_cl_ll hc (show 0 ≤ v ∧ v < 12 by omega); have hk4 := hll.2.1; have ell : ∀ d, zG (d + 1) 77 [.inr (.inr (X + 135)), .inl v] (S, I, R, T) = some (X + 135 + 11 + 9 * v, (S, I, R, T)) := fun d => zx_laidLine (zcl_sc hc) (by omega); have hb := zA_Bi h (v := v) (by omega); obtain ⟨nh, k1, k2, k3, k4⟩ := zA_Bv h hv h1 h2; have nr := zA_nrows h hv; have lor := fun d => zA_lor (d := d) (T := T) h hf hv h1 h2; have fro := fun d => zA_fro (d := d) (T := T) h hf (v := v) (by omega); have bt := zA_Bt h
  have pic := zA_pic h hv
  have hn := zA_len h hv
  have b0 := zl_beg pic.2.2.1 (r := r - zA_B I X P v) (by omega)
  obtain ⟨p, p1, p2⟩ := zx_placeNear (d := d + 6) (I := I) (T := T) (r := r - zA_B I X P v) (x := c) hll (by omega) (by rw [pic.1]; exact b0) (by rw [pic.1]; exact hn.2)
  rw [pic.1] at p2
  refine ⟨p, ?_, p2⟩
  rw [zm_108]
  ((try simp only [zbd_conv]); simp (disch := first | assumption | omega | trivial) only [↓reduceIte, zbd_some, eq_self, Int.reduceEq, Int.reduceLT, Int.reduceLE, and_self, or_true, true_or, or_false, false_or, if_pos, if_neg, if_true, if_false, true_and, and_true, not_true_eq_false, not_false_eq_true, false_and, and_false, Option.bind_some, zq_t, zq_f, zq0, zq1, zw_id, zcl_x1 hc, hf, zfr_k hF, zfr_r0 hF, zfr_r1 hF, zfr_lk hF, zfr_fk hF, zcl_c3 hc, (zcl_sc hc).2.1, lor, ell, fro, hk4, p1])
/-! at -/
theorem zA_at0 (h : zA_now S I R X P w t m e) (hl : 0 ≤ l ∧ l < P 0) (hi : 0 ≤ i ∧ i ≤ P (1 + l)) : zG (d + 10) 107 [.inr (.inr X), .inl l, .inl i, .inl 0] (S, I, R, T) = some (zt_if (zt_hid P l) (-4) (zA_B I X P l + I (X + 135 + 11 + 9 * l + 1) i), (S, I, R, T)) := by
  obtain ⟨hc, ⟨hrep, hwf⟩, hset, hlay⟩ := id h; obtain ⟨f, hf⟩ : ∃ f, R X 6 = f := ⟨_, rfl⟩; rw [hf] at hrep; have hF := zcl_fr hc hf; have hrz := zA_rz h; have h0 := hwf.1
  have hll := zs_cl_ll hc (show 0 ≤ l ∧ l < 12 by omega); have hk4 := hll.2.1; have ell : ∀ d, zG (d + 1) 77 [.inr (.inr (X + 135)), .inl l] (S, I, R, T) = some (X + 135 + 11 + 9 * l, (S, I, R, T)) := fun d => zx_laidLine (zcl_sc hc) (by omega); have hn := zA_len h hl; have hpl := fun d => zzc_hasPlace (d := d) (I := I) (T := T) (l := l) (i := i) hF hrep hwf
  have pic := zA_pic h hl
  have st := zA_st h
  have hii := zA_ind h (n := P (1 + l)) (l := l)
  have prow := zl_pic_row pic hn st.2.1 (by omega) hi
  have ro := fun d => zzc_rowOf (d := d) (I := I) (T := T) (l := l) (i := i) hc hF hrep hwf hrz hl (by omega) (by omega)
  have eB : zk_sm (zt_vis P (zr_rz I X)) l = zA_B I X P l := rfl
  rw [zm_107]
  by_cases gh : zt_hid P l
  · ((try simp only [zbd_conv]); simp (disch := first | assumption | omega | trivial) only [↓reduceIte, zbd_some, eq_self, Int.reduceEq, Int.reduceLT, Int.reduceLE, and_self, or_true, true_or, or_false, false_or, if_pos, if_neg, if_true, if_false, true_and, and_true, not_true_eq_false, not_false_eq_true, false_and, and_false, Option.bind_some, zq_t, zq_f, zq0, zq1, zw_id, zcl_x1 hc, hf, zfr_k hF, zfr_r0 hF, zfr_r1 hF, zfr_lk hF, zfr_fk hF, zcl_c3 hc, (zcl_sc hc).2.1, hpl, ell, zzc_hides hF hrep hwf, zt_if_t])
  · ((try simp only [zbd_conv]); simp (disch := first | assumption | omega | trivial) only [↓reduceIte, zbd_some, eq_self, Int.reduceEq, Int.reduceLT, Int.reduceLE, and_self, or_true, true_or, or_false, false_or, if_pos, if_neg, if_true, if_false, true_and, and_true, not_true_eq_false, not_false_eq_true, false_and, and_false, Option.bind_some, zq_t, zq_f, zq0, zq1, zw_id, zcl_x1 hc, hf, zfr_k hF, zfr_r0 hF, zfr_r1 hF, zfr_lk hF, zfr_fk hF, zcl_c3 hc, (zcl_sc hc).2.1, hpl, ell, zzc_hides hF hrep hwf, ro, eB, zt_if_f])
theorem zA_at1 (h : zA_now S I R X P w t m e) (hl : 0 ≤ l ∧ l < P 0) (hi : 0 ≤ i ∧ i ≤ P (1 + l)) : zG (d + 10) 107 [.inr (.inr X), .inl l, .inl i, .inl 1] (S, I, R, T) = some (I (X + 135 + 11 + 9 * l + 2) i, (S, I, R, T)) := by
  obtain ⟨hc, ⟨hrep, hwf⟩, hset, hlay⟩ := id h; obtain ⟨f, hf⟩ : ∃ f, R X 6 = f := ⟨_, rfl⟩; rw [hf] at hrep; have hF := zcl_fr hc hf; have hrz := zA_rz h; have h0 := hwf.1
  have hll := zs_cl_ll hc (show 0 ≤ l ∧ l < 12 by omega); have hk4 := hll.2.1; have ell : ∀ d, zG (d + 1) 77 [.inr (.inr (X + 135)), .inl l] (S, I, R, T) = some (X + 135 + 11 + 9 * l, (S, I, R, T)) := fun d => zx_laidLine (zcl_sc hc) (by omega); have hn := zA_len h hl; have hpl := fun d => zzc_hasPlace (d := d) (I := I) (T := T) (l := l) (i := i) hF hrep hwf
  rw [zm_107]
  ((try simp only [zbd_conv]); simp (disch := first | assumption | omega | trivial) only [↓reduceIte, zbd_some, eq_self, Int.reduceEq, Int.reduceLT, Int.reduceLE, and_self, or_true, true_or, or_false, false_or, if_pos, if_neg, if_true, if_false, true_and, and_true, not_true_eq_false, not_false_eq_true, false_and, and_false, Option.bind_some, zq_t, zq_f, zq0, zq1, zw_id, zcl_x1 hc, hf, zfr_k hF, zfr_r0 hF, zfr_r1 hF, zfr_lk hF, zfr_fk hF, zcl_c3 hc, (zcl_sc hc).2.1, hpl, ell, hk4, zx_columnOf hll, zk_pk_in])
theorem zA_s01 (h : zA_now S I R X P w t m e) (hl : 0 ≤ l ∧ l < P 0) (hi : 0 ≤ i ∧ i ≤ P (1 + l)) : I (X + 135 + 11 + 9 * l + 5) i = 0 ∨ I (X + 135 + 11 + 9 * l + 5) i = 1 := by
  rw [(zA_pic h hl).2.2.2.1 i hi.1 hi.2]
  exact zq01
theorem zA_at2 (h : zA_now S I R X P w t m e) (hl : 0 ≤ l ∧ l < P 0) (hi : 0 ≤ i ∧ i ≤ P (1 + l)) : zG (d + 10) 107 [.inr (.inr X), .inl l, .inl i, .inl 2] (S, I, R, T) = some (I (X + 135 + 11 + 9 * l + 5) i, (S, I, R, T)) := by
  obtain ⟨hc, ⟨hrep, hwf⟩, hset, hlay⟩ := id h; obtain ⟨f, hf⟩ : ∃ f, R X 6 = f := ⟨_, rfl⟩; rw [hf] at hrep; have hF := zcl_fr hc hf; have hrz := zA_rz h; have h0 := hwf.1
  have hll := zs_cl_ll hc (show 0 ≤ l ∧ l < 12 by omega); have hk4 := hll.2.1; have ell : ∀ d, zG (d + 1) 77 [.inr (.inr (X + 135)), .inl l] (S, I, R, T) = some (X + 135 + 11 + 9 * l, (S, I, R, T)) := fun d => zx_laidLine (zcl_sc hc) (by omega); have hn := zA_len h hl; have hpl := fun d => zzc_hasPlace (d := d) (I := I) (T := T) (l := l) (i := i) hF hrep hwf
  rw [zm_107]
  rcases zA_s01 h hl hi with g | g
  · ((try simp only [zbd_conv]); simp (disch := first | assumption | omega | trivial) only [↓reduceIte, zbd_some, eq_self, Int.reduceEq, Int.reduceLT, Int.reduceLE, and_self, or_true, true_or, or_false, false_or, if_pos, if_neg, if_true, if_false, true_and, and_true, not_true_eq_false, not_false_eq_true, false_and, and_false, Option.bind_some, zq_t, zq_f, zq0, zq1, zw_id, zcl_x1 hc, hf, zfr_k hF, zfr_r0 hF, zfr_r1 hF, zfr_lk hF, zfr_fk hF, zcl_c3 hc, (zcl_sc hc).2.1, hpl, ell, hk4, zx_isStop hll, zk_pk_in, g])
  · ((try simp only [zbd_conv]); simp (disch := first | assumption | omega | trivial) only [↓reduceIte, zbd_some, eq_self, Int.reduceEq, Int.reduceLT, Int.reduceLE, and_self, or_true, true_or, or_false, false_or, if_pos, if_neg, if_true, if_false, true_and, and_true, not_true_eq_false, not_false_eq_true, false_and, and_false, Option.bind_some, zq_t, zq_f, zq0, zq1, zw_id, zcl_x1 hc, hf, zfr_k hF, zfr_r0 hF, zfr_r1 hF, zfr_lk hF, zfr_fk hF, zcl_c3 hc, (zcl_sc hc).2.1, hpl, ell, hk4, zx_isStop hll, zk_pk_in, g])
/-! caret -/
theorem zA_car (h : zA_now S I R X P w t m e) : (0 ≤ P 518 ∧ P 518 < P 0) ∧ 0 ≤ P 519 ∧ P 519 ≤ P (1 + P 518) := (zA_pg h).2.2.2.2.2
theorem zA_caret0 (h : zA_now S I R X P w t m e) : zG (d + 10) 110 [.inr (.inr X), .inl 0] (S, I, R, T) = some (P 518, (S, I, R, T)) := by
  obtain ⟨hc, ⟨hrep, hwf⟩, hset, hlay⟩ := id h; obtain ⟨f, hf⟩ : ∃ f, R X 6 = f := ⟨_, rfl⟩; rw [hf] at hrep; have hF := zcl_fr hc hf; have hrz := zA_rz h; have h0 := hwf.1
  rw [zm_110]
  ((try simp only [zbd_conv]); simp (disch := first | assumption | omega | trivial) only [↓reduceIte, zbd_some, eq_self, Int.reduceEq, Int.reduceLT, Int.reduceLE, and_self, or_true, true_or, or_false, false_or, if_pos, if_neg, if_true, if_false, true_and, and_true, not_true_eq_false, not_false_eq_true, false_and, and_false, Option.bind_some, zq_t, zq_f, zq0, zq1, zw_id, zcl_x1 hc, hf, zfr_k hF, zfr_r0 hF, zfr_r1 hF, zfr_lk hF, zfr_fk hF, zcl_c3 hc, (zcl_sc hc).2.1, hrep.2.2.2.2.2.1])
theorem zA_caret1 (h : zA_now S I R X P w t m e) : zG (d + 10) 110 [.inr (.inr X), .inl 1] (S, I, R, T) = some (P 519, (S, I, R, T)) := by
  obtain ⟨hc, ⟨hrep, hwf⟩, hset, hlay⟩ := id h; obtain ⟨f, hf⟩ : ∃ f, R X 6 = f := ⟨_, rfl⟩; rw [hf] at hrep; have hF := zcl_fr hc hf; have hrz := zA_rz h; have h0 := hwf.1
  rw [zm_110]
  ((try simp only [zbd_conv]); simp (disch := first | assumption | omega | trivial) only [↓reduceIte, zbd_some, eq_self, Int.reduceEq, Int.reduceLT, Int.reduceLE, and_self, or_true, true_or, or_false, false_or, if_pos, if_neg, if_true, if_false, true_and, and_true, not_true_eq_false, not_false_eq_true, false_and, and_false, Option.bind_some, zq_t, zq_f, zq0, zq1, zw_id, zcl_x1 hc, hf, zfr_k hF, zfr_r0 hF, zfr_r1 hF, zfr_lk hF, zfr_fk hF, zcl_c3 hc, (zcl_sc hc).2.1, hrep.2.2.2.2.2.2])
theorem zA_caret2 (hc : zs_cl S R X) : zG (d + 10) 110 [.inr (.inr X), .inl 2] (S, I, R, T) = some (I X 8, (S, I, R, T)) := by
  rw [zm_110]
  ((try simp only [zbd_conv]); simp (disch := first | assumption | omega | trivial) only [↓reduceIte, zbd_some, eq_self, Int.reduceEq, Int.reduceLT, Int.reduceLE, and_self, or_true, true_or, or_false, false_or, if_pos, if_neg, if_true, if_false, true_and, and_true, not_true_eq_false, not_false_eq_true, false_and, and_false, Option.bind_some, zq_t, zq_f, zq0, zq1, zw_id, zcl_x1 hc])
theorem zA_crow (h : zA_now S I R X P w t m e) : zG (d + 6) 129 [.inr (.inr X)] (S, I, R, T) = some (zA_B I X P (P 518) + I (X + 135 + 11 + 9 * P 518 + 1) (P 519), (S, I, R, T)) := by
  obtain ⟨hc, ⟨hrep, hwf⟩, hset, hlay⟩ := id h; obtain ⟨f, hf⟩ : ∃ f, R X 6 = f := ⟨_, rfl⟩; rw [hf] at hrep; have hF := zcl_fr hc hf; have hrz := zA_rz h; have h0 := hwf.1
  have hl := (zA_car h).1
  have hn := zA_len h hl
  have st := zA_st h
  have hii := zA_ind h (n := P (1 + P 518)) (l := P 518)
  have prow := zl_pic_row (zA_pic h hl) hn st.2.1 (by omega) (zA_car h).2
  exact zzc_caretRow hc hf hrep hwf hrz (by omega)
theorem zA_caret3 (h : zA_now S I R X P w t m e) : zG (d + 10) 110 [.inr (.inr X), .inl 3] (S, I, R, T) = some (zA_B I X P (P 518) + I (X + 135 + 11 + 9 * P 518 + 1) (P 519), (S, I, R, T)) := by
  obtain ⟨hc, ⟨hrep, hwf⟩, hset, hlay⟩ := id h; obtain ⟨f, hf⟩ : ∃ f, R X 6 = f := ⟨_, rfl⟩; rw [hf] at hrep; have hF := zcl_fr hc hf; have hrz := zA_rz h; have h0 := hwf.1
  rw [zm_110]
  ((try simp only [zbd_conv]); simp (disch := first | assumption | omega | trivial) only [↓reduceIte, zbd_some, eq_self, Int.reduceEq, Int.reduceLT, Int.reduceLE, and_self, or_true, true_or, or_false, false_or, if_pos, if_neg, if_true, if_false, true_and, and_true, not_true_eq_false, not_false_eq_true, false_and, and_false, Option.bind_some, zq_t, zq_f, zq0, zq1, zw_id, zcl_x1 hc, hf, zfr_k hF, zfr_r0 hF, zfr_r1 hF, zfr_lk hF, zfr_fk hF, zcl_c3 hc, (zcl_sc hc).2.1, zA_crow h])
theorem zA_caret4 (h : zA_now S I R X P w t m e) : zG (d + 10) 110 [.inr (.inr X), .inl 4] (S, I, R, T) = some (I (X + 135 + 11 + 9 * P 518 + 2) (P 519), (S, I, R, T)) := by
  obtain ⟨hc, ⟨hrep, hwf⟩, hset, hlay⟩ := id h; obtain ⟨f, hf⟩ : ∃ f, R X 6 = f := ⟨_, rfl⟩; rw [hf] at hrep; have hF := zcl_fr hc hf; have hrz := zA_rz h; have h0 := hwf.1
  have hl := (zA_car h).1
  have hp := (zA_car h).2
  have hn := zA_len h hl
  have c6 := hrep.2.2.2.2.2.1
  have c7 := hrep.2.2.2.2.2.2
  have cc := fun d => zx_caretColumn (d := d) (I := I) (T := T) hc hf c6 c7 (by omega) (by omega)
  rw [zm_110]
  ((try simp only [zbd_conv]); simp (disch := first | assumption | omega | trivial) only [↓reduceIte, zbd_some, eq_self, Int.reduceEq, Int.reduceLT, Int.reduceLE, and_self, or_true, true_or, or_false, false_or, if_pos, if_neg, if_true, if_false, true_and, and_true, not_true_eq_false, not_false_eq_true, false_and, and_false, Option.bind_some, zq_t, zq_f, zq0, zq1, zw_id, zcl_x1 hc, hf, zfr_k hF, zfr_r0 hF, zfr_r1 hF, zfr_lk hF, zfr_fk hF, zcl_c3 hc, (zcl_sc hc).2.1, cc])
end ZA2
