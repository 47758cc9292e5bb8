/-! the object alone: a page and settings, and what is asked of them -/
def zA_set (I : zI) (X w t m e : Int) : Prop := (I (X + 4) 0 = w ∧ I (X + 4) 1 = t ∧ I (X + 4) 2 = m ∧ I (X + 4) 3 = e) ∧ (4 ≤ w ∧ w ≤ 40) ∧ (1 ≤ t ∧ t ≤ 8) ∧ (0 ≤ m ∧ m ≤ 2) ∧ 0 ≤ e ∧ e ≤ 7
def zA_now (S : zS) (I R : zI) (X : Int) (P : Int → Int) (w t m e : Int) : Prop := zs_cl S R X ∧ (zv_rep I (R X 6) P ∧ zw_page P) ∧ zA_set I X w t m e ∧ ∀ l, 0 ≤ l → l < P 0 → zl_laid P w t m e I (X + 135) l
/-- rows of the screen ahead of a line -/
noncomputable def zA_B (I : zI) (X : Int) (P : Int → Int) (v : Int) : Int := zk_sm (zt_vis P (zr_rz I X)) v
section ZA1
variable {d : Nat} {S : zS} {I J R : zI} {T : Int × Nat} {X n v l f c k x y z r i j p w t m e a b : Int} {P Q : Int → Int}
theorem zA_rz (h : zA_now S I R X P w t m e) : zl_rows P w t m e (zr_rz I X) := fun l l1 l2 => ⟨_, _, _, _, _, (h.2.2.2 l l1 l2).2.2.1⟩
theorem zA_pg (h : zA_now S I R X P w t m e) : zw_page P := h.2.1.2
theorem zA_st (h : zA_now S I R X P w t m e) : (4 ≤ w ∧ w ≤ 40) ∧ (1 ≤ t ∧ t ≤ 8) ∧ (0 ≤ m ∧ m ≤ 2) ∧ 0 ≤ e ∧ e ≤ 7 := h.2.2.1.2
theorem zA_len (h : zA_now S I R X P w t m e) (hl : 0 ≤ l ∧ l < P 0) : 0 ≤ P (1 + l) ∧ P (1 + l) ≤ 40 := (zA_pg h).2.1 l hl.1 hl.2
theorem zA_pic (h : zA_now S I R X P w t m e) (hl : 0 ≤ l ∧ l < P 0) : zl_pic (P (1 + l)) w t m (zl_ind (P (1 + l)) w t m e (zt_sg P l)) (zt_sg P l) I (X + 135 + 11 + 9 * l) := h.2.2.2 l hl.1 hl.2
theorem zA_ind (h : zA_now S I R X P w t m e) : 0 ≤ zl_ind n w t m e (zt_sg P l) ∧ zl_ind n w t m e (zt_sg P l) ≤ w / 2 := zl_ind_ir (zA_st h).1 (zA_st h).2.2.2.1 (zl_lead_nn (zA_st h).2.1.1 41 0 0 (by omega))
theorem zA_nrows (h : zA_now S I R X P w t m e) (hl : 0 ≤ l ∧ l < P 0) : 1 ≤ I (X + 135 + 11 + 9 * l) 1 ∧ I (X + 135 + 11 + 9 * l) 1 ≤ 41 := zl_rows_ir (l := l) (zA_rz h) hl (zA_len h hl).2
theorem zA_B0 : zA_B I X P 0 = 0 := zk_sm0 (by omega)
theorem zA_Bh (hv : 0 ≤ v) (g : zt_hid P v) : zA_B I X P (v + 1) = zA_B I X P v := by
  unfold zA_B
  rw [zk_smS hv, zt_vis_t g, Int.add_zero]
theorem zA_Bn (hv : 0 ≤ v) (g : ¬ zt_hid P v) : zA_B I X P (v + 1) = zA_B I X P v + I (X + 135 + 11 + 9 * v) 1 := by
  unfold zA_B
  rw [zk_smS hv, zt_vis_f g]
  rfl
theorem zA_Bm (h : zA_now S I R X P w t m e) (ha : 0 ≤ a) (hab : a ≤ b) (hb : b ≤ P 0) : zA_B I X P a ≤ zA_B I X P b := zk_sm_mono ha hab (fun k k1 k2 => (zt_vis_ir (zA_rz h) ⟨k1, by omega⟩ (zA_len h ⟨k1, by omega⟩).2).1)
theorem zA_Bt (h : zA_now S I R X P w t m e) : 1 ≤ zA_B I X P (P 0) ∧ zA_B I X P (P 0) ≤ 492 := zt_total (zA_rz h) (zA_pg h)
theorem zA_Bi (h : zA_now S I R X P w t m e) (hv : 0 ≤ v ∧ v ≤ P 0) : 0 ≤ zA_B I X P v ∧ zA_B I X P v ≤ 492 := by
  have h1 := zA_Bm h (a := 0) (b := v) (by omega) hv.1 hv.2
  have h2 := zA_Bm h (a := v) (b := P 0) hv.1 hv.2 (by omega)
  have h3 := zA_Bt h
  rw [zA_B0] at h1
  omega
/-- a row of the screen is in one line, that is shown -/
theorem zA_Bf (h : zA_now S I R X P w t m e) (hr : 0 ≤ r ∧ r < zA_B I X P (P 0)) : ∃ v, (0 ≤ v ∧ v < P 0) ∧ zA_B I X P v ≤ r ∧ r < zA_B I X P (v + 1) := by
  have h0 := (zA_pg h).1
  have key : ∀ k : Nat, (k : Int) ≤ P 0 → r < zA_B I X P k → ∃ v, (0 ≤ v ∧ v < P 0) ∧ zA_B I X P v ≤ r ∧ r < zA_B I X P (v + 1) := by
    intro k
    induction k with
    | zero => intro _ q; rw [show ((0 : Nat) : Int) = 0 from rfl, zA_B0] at q; omega
    | succ k ih =>
      intro q1 q2
      by_cases g : r < zA_B I X P k
      · exact ih (by omega) g
      · exact ⟨k, by omega, by omega, q2⟩
  exact key (P 0).toNat (by omega) (by rw [show (((P 0).toNat : Nat) : Int) = P 0 by omega]; exact hr.2)
theorem zA_Bv (h : zA_now S I R X P w t m e) (hv : 0 ≤ v ∧ v < P 0) (h1 : zA_B I X P v ≤ r) (h2 : r < zA_B I X P (v + 1)) : ¬ zt_hid P v ∧ 0 ≤ r - zA_B I X P v ∧ r - zA_B I X P v < I (X + 135 + 11 + 9 * v) 1 ∧ 0 ≤ r ∧ r < zA_B I X P (P 0) := by
  have b1 := zA_Bi h (v := v) (by omega)
  have b2 := zA_Bm h (a := v + 1) (b := P 0) (by omega) (by omega) (by omega)
  have h3 : r < zA_B I X P (P 0) := by omega
  by_cases g : zt_hid P v
  · rw [zA_Bh hv.1 g] at h2; omega
  · rw [zA_Bn hv.1 g] at h2
    exact ⟨g, by omega, by omega, by omega, h3⟩
theorem zA_lor (h : zA_now S I R X P w t m e) (hf : R X 6 = f) (hv : 0 ≤ v ∧ v < P 0) (h1 : zA_B I X P v ≤ r) (h2 : r < zA_B I X P (v + 1)) : zG (d + 4) 82 [.inr (.inr (X + 135)), .inr (.inr f), .inl r] (S, I, R, T) = some (v, (S, I, R, T)) := by
  obtain ⟨hc, ⟨hrep, hwf⟩, hset, hlay⟩ := id h
  rw [hf] at hrep
  obtain ⟨g1, g2, g3, g4, g5⟩ := zA_Bv h hv h1 h2
  have g6 := zA_Bt h
  obtain ⟨v', e1, e2⟩ := zzc_lineOfRow (d := d) (I := I) (T := T) (r := r) hc (zcl_fr hc hf) hrep hwf (zA_rz h) (by omega)
  obtain ⟨-, e4, e5, e6⟩ := e2.resolve_left (fun z => z.1 ⟨g4, g5⟩)
  rw [e1, zt_line_uniq (zA_rz h) hwf.2.1 e4 hv e5 e6 h1 h2]
theorem zA_fro (h : zA_now S I R X P w t m e) (hf : R X 6 = f) (hv : 0 ≤ v ∧ v ≤ P 0) : zG (d + 4) 80 [.inr (.inr (X + 135)), .inr (.inr f), .inl v] (S, I, R, T) = some (zA_B I X P v, (S, I, R, T)) := by
  obtain ⟨hc, ⟨hrep, hwf⟩, hset, hlay⟩ := id h
  rw [hf] at hrep
  exact zzc_firstRowOf hc (zcl_fr hc hf) hrep hwf (zA_rz h) hv
theorem zA_rct (h : zA_now S I R X P w t m e) (hf : R X 6 = f) : zG (d + 5) 79 [.inr (.inr (X + 135)), .inr (.inr f)] (S, I, R, T) = some (zA_B I X P (P 0), (S, I, R, T)) := by
  obtain ⟨hc, ⟨hrep, hwf⟩, hset, hlay⟩ := id h
  rw [hf] at hrep
  exact zzc_rowCount hc (zcl_fr hc hf) hrep hwf (zA_rz h)
/-! rule -/
theorem zA_rule0 (h : zA_now S I R X P w t m e) : zG (d + 10) 102 [.inr (.inr X), .inl 0] (S, I, R, T) = some (P 0, (S, I, R, T)) := by
  obtain ⟨hc, ⟨hrep, hwf⟩, hset, hlay⟩ := id h; obtain ⟨f, hf⟩ : ∃ f, R X 6 = f := ⟨_, rfl⟩; rw [hf] at hrep; have hF := zcl_fr hc hf; have hrz := zA_rz h; have h0 := hwf.1
  rw [zm_102]
  ((try simp only [zbd_conv]); simp (disch := first | assumption | omega | trivial) only [↓reduceIte, zbd_some, eq_self, Int.reduceEq, Int.reduceLT, Int.reduceLE, and_self, or_true, true_or, or_false, false_or, if_pos, if_neg, if_true, if_false, true_and, and_true, not_true_eq_false, not_false_eq_true, false_and, and_false, Option.bind_some, zq_t, zq_f, zq0, zq1, zw_id, zcl_x1 hc, hf, zfr_k hF, zfr_r0 hF, zfr_r1 hF, zfr_lk hF, zfr_fk hF, zcl_c3 hc, (zcl_sc hc).2.1, hrep.1])
theorem zA_rule1 (h : zA_now S I R X P w t m e) : zG (d + 10) 102 [.inr (.inr X), .inl 1] (S, I, R, T) = some (zk_sm (fun l => P (1 + l)) (P 0), (S, I, R, T)) := by
  obtain ⟨hc, ⟨hrep, hwf⟩, hset, hlay⟩ := id h; obtain ⟨f, hf⟩ : ∃ f, R X 6 = f := ⟨_, rfl⟩; rw [hf] at hrep; have hF := zcl_fr hc hf; have hrz := zA_rz h; have h0 := hwf.1
  rw [zm_102]
  ((try simp only [zbd_conv]); simp (disch := first | assumption | omega | trivial) only [↓reduceIte, zbd_some, eq_self, Int.reduceEq, Int.reduceLT, Int.reduceLE, and_self, or_true, true_or, or_false, false_or, if_pos, if_neg, if_true, if_false, true_and, and_true, not_true_eq_false, not_false_eq_true, false_and, and_false, Option.bind_some, zq_t, zq_f, zq0, zq1, zw_id, zcl_x1 hc, hf, zfr_k hF, zfr_r0 hF, zfr_r1 hF, zfr_lk hF, zfr_fk hF, zcl_c3 hc, (zcl_sc hc).2.1, zzc_total hF hrep hwf])
theorem zA_rule2 (h : zA_now S I R X P w t m e) : zG (d + 10) 102 [.inr (.inr X), .inl 2] (S, I, R, T) = some (zA_B I X P (P 0), (S, I, R, T)) := by
  obtain ⟨hc, ⟨hrep, hwf⟩, hset, hlay⟩ := id h; obtain ⟨f, hf⟩ : ∃ f, R X 6 = f := ⟨_, rfl⟩; rw [hf] at hrep; have hF := zcl_fr hc hf; have hrz := zA_rz h; have h0 := hwf.1
  rw [zm_102]
  ((try simp only [zbd_conv]); simp (disch := first | assumption | omega | trivial) only [↓reduceIte, zbd_some, eq_self, Int.reduceEq, Int.reduceLT, Int.reduceLE, and_self, or_true, true_or, or_false, false_or, if_pos, if_neg, if_true, if_false, true_and, and_true, not_true_eq_false, not_false_eq_true, false_and, and_false, Option.bind_some, zq_t, zq_f, zq0, zq1, zw_id, zcl_x1 hc, hf, zfr_k hF, zfr_r0 hF, zfr_r1 hF, zfr_lk hF, zfr_fk hF, zcl_c3 hc, (zcl_sc hc).2.1, zA_rct h hf])
theorem zA_rule3 (h : zA_now S I R X P w t m e) : zG (d + 10) 102 [.inr (.inr X), .inl 3] (S, I, R, T) = some (zk_sm (fun l => zq (zt_hid P l)) (P 0), (S, I, R, T)) := by
  obtain ⟨hc, ⟨hrep, hwf⟩, hset, hlay⟩ := id h; obtain ⟨f, hf⟩ : ∃ f, R X 6 = f := ⟨_, rfl⟩; rw [hf] at hrep; have hF := zcl_fr hc hf; have hrz := zA_rz h; have h0 := hwf.1
  rw [zm_102]
  ((try simp only [zbd_conv]); simp (disch := first | assumption | omega | trivial) only [↓reduceIte, zbd_some, eq_self, Int.reduceEq, Int.reduceLT, Int.reduceLE, and_self, or_true, true_or, or_false, false_or, if_pos, if_neg, if_true, if_false, true_and, and_true, not_true_eq_false, not_false_eq_true, false_and, and_false, Option.bind_some, zq_t, zq_f, zq0, zq1, zw_id, zcl_x1 hc, hf, zfr_k hF, zfr_r0 hF, zfr_r1 hF, zfr_lk hF, zfr_fk hF, zcl_c3 hc, (zcl_sc hc).2.1, zzc_hiddenLines hF hrep hwf])
theorem zA_rule4 (h : zA_now S I R X P w t m e) : zG (d + 10) 102 [.inr (.inr X), .inl 4] (S, I, R, T) = some (P 493, (S, I, R, T)) := by
  obtain ⟨hc, ⟨hrep, hwf⟩, hset, hlay⟩ := id h; obtain ⟨f, hf⟩ : ∃ f, R X 6 = f := ⟨_, rfl⟩; rw [hf] at hrep; have hF := zcl_fr hc hf; have hrz := zA_rz h; have h0 := hwf.1
  rw [zm_102]
  ((try simp only [zbd_conv]); simp (disch := first | assumption | omega | trivial) only [↓reduceIte, zbd_some, eq_self, Int.reduceEq, Int.reduceLT, Int.reduceLE, and_self, or_true, true_or, or_false, false_or, if_pos, if_neg, if_true, if_false, true_and, and_true, not_true_eq_false, not_false_eq_true, false_and, and_false, Option.bind_some, zq_t, zq_f, zq0, zq1, zw_id, zcl_x1 hc, hf, zfr_k hF, zfr_r0 hF, zfr_r1 hF, zfr_lk hF, zfr_fk hF, zcl_c3 hc, (zcl_sc hc).2.1, hrep.2.2.2.1])
theorem zA_rule5 (h : zA_now S I R X P w t m e) : zG (d + 10) 102 [.inr (.inr X), .inl 5] (S, I, R, T) = some (zk_sm (fun k => zq (P (496 + 3 * k) = 1)) (P 493), (S, I, R, T)) := by
  obtain ⟨hc, ⟨hrep, hwf⟩, hset, hlay⟩ := id h; obtain ⟨f, hf⟩ : ∃ f, R X 6 = f := ⟨_, rfl⟩; rw [hf] at hrep; have hF := zcl_fr hc hf; have hrz := zA_rz h; have h0 := hwf.1
  rw [zm_102]
  ((try simp only [zbd_conv]); simp (disch := first | assumption | omega | trivial) only [↓reduceIte, zbd_some, eq_self, Int.reduceEq, Int.reduceLT, Int.reduceLE, and_self, or_true, true_or, or_false, false_or, if_pos, if_neg, if_true, if_false, true_and, and_true, not_true_eq_false, not_false_eq_true, false_and, and_false, Option.bind_some, zq_t, zq_f, zq0, zq1, zw_id, zcl_x1 hc, hf, zfr_k hF, zfr_r0 hF, zfr_r1 hF, zfr_lk hF, zfr_fk hF, zcl_c3 hc, (zcl_sc hc).2.1, zzc_shutCount hF hrep hwf])
theorem zA_rule6 (h : zA_now S I R X P w t m e) : zG (d + 10) 102 [.inr (.inr X), .inl 6] (S, I, R, T) = some (w, (S, I, R, T)) := by
  obtain ⟨hc, ⟨hrep, hwf⟩, hset, hlay⟩ := id h; obtain ⟨f, hf⟩ : ∃ f, R X 6 = f := ⟨_, rfl⟩; rw [hf] at hrep; have hF := zcl_fr hc hf; have hrz := zA_rz h; have h0 := hwf.1
  rw [zm_102]
  ((try simp only [zbd_conv]); simp (disch := first | assumption | omega | trivial) only [↓reduceIte, zbd_some, eq_self, Int.reduceEq, Int.reduceLT, Int.reduceLE, and_self, or_true, true_or, or_false, false_or, if_pos, if_neg, if_true, if_false, true_and, and_true, not_true_eq_false, not_false_eq_true, false_and, and_false, Option.bind_some, zq_t, zq_f, zq0, zq1, zw_id, zcl_x1 hc, hf, zfr_k hF, zfr_r0 hF, zfr_r1 hF, zfr_lk hF, zfr_fk hF, zcl_c3 hc, (zcl_sc hc).2.1, zcl_c1 hc, (zcl_se hc).2, hset.1.1])
theorem zA_rule7 (h : zA_now S I R X P w t m e) : zG (d + 10) 102 [.inr (.inr X), .inl 7] (S, I, R, T) = some (t, (S, I, R, T)) := by
  obtain ⟨hc, ⟨hrep, hwf⟩, hset, hlay⟩ := id h; obtain ⟨f, hf⟩ : ∃ f, R X 6 = f := ⟨_, rfl⟩; rw [hf] at hrep; have hF := zcl_fr hc hf; have hrz := zA_rz h; have h0 := hwf.1
  rw [zm_102]
  ((try simp only [zbd_conv]); simp (disch := first | assumption | omega | trivial) only [↓reduceIte, zbd_some, eq_self, Int.reduceEq, Int.reduceLT, Int.reduceLE, and_self, or_true, true_or, or_false, false_or, if_pos, if_neg, if_true, if_false, true_and, and_true, not_true_eq_false, not_false_eq_true, false_and, and_false, Option.bind_some, zq_t, zq_f, zq0, zq1, zw_id, zcl_x1 hc, hf, zfr_k hF, zfr_r0 hF, zfr_r1 hF, zfr_lk hF, zfr_fk hF, zcl_c3 hc, (zcl_sc hc).2.1, zcl_c1 hc, (zcl_se hc).2, hset.1.2.1])
theorem zA_rule8 (h : zA_now S I R X P w t m e) : zG (d + 10) 102 [.inr (.inr X), .inl 8] (S, I, R, T) = some (m, (S, I, R, T)) := by
  obtain ⟨hc, ⟨hrep, hwf⟩, hset, hlay⟩ := id h; obtain ⟨f, hf⟩ : ∃ f, R X 6 = f := ⟨_, rfl⟩; rw [hf] at hrep; have hF := zcl_fr hc hf; have hrz := zA_rz h; have h0 := hwf.1
  rw [zm_102]
  ((try simp only [zbd_conv]); simp (disch := first | assumption | omega | trivial) only [↓reduceIte, zbd_some, eq_self, Int.reduceEq, Int.reduceLT, Int.reduceLE, and_self, or_true, true_or, or_false, false_or, if_pos, if_neg, if_true, if_false, true_and, and_true, not_true_eq_false, not_false_eq_true, false_and, and_false, Option.bind_some, zq_t, zq_f, zq0, zq1, zw_id, zcl_x1 hc, hf, zfr_k hF, zfr_r0 hF, zfr_r1 hF, zfr_lk hF, zfr_fk hF, zcl_c3 hc, (zcl_sc hc).2.1, zcl_c1 hc, (zcl_se hc).2, hset.1.2.2.1])
theorem zA_rule9 (h : zA_now S I R X P w t m e) : zG (d + 10) 102 [.inr (.inr X), .inl 9] (S, I, R, T) = some (e, (S, I, R, T)) := by
  obtain ⟨hc, ⟨hrep, hwf⟩, hset, hlay⟩ := id h; obtain ⟨f, hf⟩ : ∃ f, R X 6 = f := ⟨_, rfl⟩; rw [hf] at hrep; have hF := zcl_fr hc hf; have hrz := zA_rz h; have h0 := hwf.1
  rw [zm_102]
  ((try simp only [zbd_conv]); simp (disch := first | assumption | omega | trivial) only [↓reduceIte, zbd_some, eq_self, Int.reduceEq, Int.reduceLT, Int.reduceLE, and_self, or_true, true_or, or_false, false_or, if_pos, if_neg, if_true, if_false, true_and, and_true, not_true_eq_false, not_false_eq_true, false_and, and_false, Option.bind_some, zq_t, zq_f, zq0, zq1, zw_id, zcl_x1 hc, hf, zfr_k hF, zfr_r0 hF, zfr_r1 hF, zfr_lk hF, zfr_fk hF, zcl_c3 hc, (zcl_sc hc).2.1, zcl_c1 hc, (zcl_se hc).2, hset.1.2.2.2])
theorem zA_rule10 (hc : zs_cl S R X) : zG (d + 10) 102 [.inr (.inr X), .inl 10] (S, I, R, T) = some (I (X + 5) 1, (S, I, R, T)) := by
  rw [zm_102]
  ((try simp only [zbd_conv]); simp (disch := first | assumption | omega | trivial) only [↓reduceIte, zbd_some, eq_self, Int.reduceEq, Int.reduceLT, Int.reduceLE, and_self, or_true, true_or, or_false, false_or, if_pos, if_neg, if_true, if_false, true_and, and_true, not_true_eq_false, not_false_eq_true, false_and, and_false, Option.bind_some, zq_t, zq_f, zq0, zq1, zw_id, zcl_x1 hc, zcl_c2 hc, (zcl_hi hc).2.1])
theorem zA_rule12 (hc : zs_cl S R X) : zG (d + 10) 102 [.inr (.inr X), .inl 12] (S, I, R, T) = some (I (X + 1) 2, (S, I, R, T)) := by
  rw [zm_102]
  ((try simp only [zbd_conv]); simp (disch := first | assumption | omega | trivial) only [↓reduceIte, zbd_some, eq_self, Int.reduceEq, Int.reduceLT, Int.reduceLE, and_self, or_true, true_or, or_false, false_or, if_pos, if_neg, if_true, if_false, true_and, and_true, not_true_eq_false, not_false_eq_true, false_and, and_false, Option.bind_some, zq_t, zq_f, zq0, zq1, zw_id, zcl_x1 hc, zcl_c0 hc, (zcl_ta hc).2.1])
/-! sign, line -/
theorem zA_sign (h : zA_now S I R X P w t m e) (hl : 0 ≤ l ∧ l < P 0) (hi : 0 ≤ i) : zG (d + 10) 103 [.inr (.inr X), .inl l, .inl i] (S, I, R, T) = some (if i < P (1 + l) then P (13 + 40 * l + i) else -4, (S, I, R, T)) := by
  obtain ⟨hc, ⟨hrep, hwf⟩, hset, hlay⟩ := id h; obtain ⟨f, hf⟩ : ∃ f, R X 6 = f := ⟨_, rfl⟩; rw [hf] at hrep; have hF := zcl_fr hc hf; have hrz := zA_rz h; have h0 := hwf.1
  rw [zm_103]
  by_cases g : i < P (1 + l)
  · ((try simp only [zbd_conv]); simp (disch := first | assumption | omega | trivial) only [↓reduceIte, zbd_some, eq_self, Int.reduceEq, Int.reduceLT, Int.reduceLE, and_self, or_true, true_or, or_false, false_or, if_pos, if_neg, if_true, if_false, true_and, and_true, not_true_eq_false, not_false_eq_true, false_and, and_false, Option.bind_some, zq_t, zq_f, zq0, zq1, zw_id, zcl_x1 hc, hf, zfr_k hF, zfr_r0 hF, zfr_r1 hF, zfr_lk hF, zfr_fk hF, zcl_c3 hc, (zcl_sc hc).2.1, zzc_has hF hrep, zzc_length hF hrep hwf, zzc_signOf hF hrep hwf])
  · ((try simp only [zbd_conv]); simp (disch := first | assumption | omega | trivial) only [↓reduceIte, zbd_some, eq_self, Int.reduceEq, Int.reduceLT, Int.reduceLE, and_self, or_true, true_or, or_false, false_or, if_pos, if_neg, if_true, if_false, true_and, and_true, not_true_eq_false, not_false_eq_true, false_and, and_false, Option.bind_some, zq_t, zq_f, zq0, zq1, zw_id, zcl_x1 hc, hf, zfr_k hF, zfr_r0 hF, zfr_r1 hF, zfr_lk hF, zfr_fk hF, zcl_c3 hc, (zcl_sc hc).2.1, zzc_has hF hrep, zzc_length hF hrep hwf])
theorem zA_line0 (h : zA_now S I R X P w t m e) (hl : 0 ≤ l ∧ l < P 0) : zG (d + 10) 104 [.inr (.inr X), .inl l, .inl 0] (S, I, R, T) = some (P (1 + l), (S, I, R, T)) := by
  obtain ⟨hc, ⟨hrep, hwf⟩, hset, hlay⟩ := id h; obtain ⟨f, hf⟩ : ∃ f, R X 6 = f := ⟨_, rfl⟩; rw [hf] at hrep; have hF := zcl_fr hc hf; have hrz := zA_rz h; have h0 := hwf.1
  have ell : ∀ d, zG (d + 1) 77 [.inr (.inr (X + 135)), .inl l] (S, I, R, T) = some (X + 135 + 11 + 9 * l, (S, I, R, T)) := fun d => zx_laidLine (zcl_sc hc) (by omega)
  rw [zm_104]
  ((try simp only [zbd_conv]); simp (disch := first | assumption | omega | trivial) only [↓reduceIte, zbd_some, eq_self, Int.reduceEq, Int.reduceLT, Int.reduceLE, and_self, or_true, true_or, or_false, false_or, if_pos, if_neg, if_true, if_false, true_and, and_true, not_true_eq_false, not_false_eq_true, false_and, and_false, Option.bind_some, zq_t, zq_f, zq0, zq1, zw_id, zcl_x1 hc, hf, zfr_k hF, zfr_r0 hF, zfr_r1 hF, zfr_lk hF, zfr_fk hF, zcl_c3 hc, (zcl_sc hc).2.1, zzc_has hF hrep, ell, zzc_length hF hrep hwf])
theorem zA_line2 (h : zA_now S I R X P w t m e) (hl : 0 ≤ l ∧ l < P 0) : zG (d + 10) 104 [.inr (.inr X), .inl l, .inl 2] (S, I, R, T) = some (zt_if (zt_hid P l) (-4) (zA_B I X P l), (S, I, R, T)) := by
  obtain ⟨hc, ⟨hrep, hwf⟩, hset, hlay⟩ := id h; obtain ⟨f, hf⟩ : ∃ f, R X 6 = f := ⟨_, rfl⟩; rw [hf] at hrep; have hF := zcl_fr hc hf; have hrz := zA_rz h; have h0 := hwf.1
  have ell : ∀ d, zG (d + 1) 77 [.inr (.inr (X + 135)), .inl l] (S, I, R, T) = some (X + 135 + 11 + 9 * l, (S, I, R, T)) := fun d => zx_laidLine (zcl_sc hc) (by omega)
  have fro := fun d => zA_fro (d := d) (T := T) h hf (v := l) (by omega)
  rw [zm_104]
  by_cases g : zt_hid P l
  · ((try simp only [zbd_conv]); simp (disch := first | assumption | omega | trivial) only [↓reduceIte, zbd_some, eq_self, Int.reduceEq, Int.reduceLT, Int.reduceLE, and_self, or_true, true_or, or_false, false_or, if_pos, if_neg, if_true, if_false, true_and, and_true, not_true_eq_false, not_false_eq_true, false_and, and_false, Option.bind_some, zq_t, zq_f, zq0, zq1, zw_id, zcl_x1 hc, hf, zfr_k hF, zfr_r0 hF, zfr_r1 hF, zfr_lk hF, zfr_fk hF, zcl_c3 hc, (zcl_sc hc).2.1, zzc_has hF hrep, ell, zzc_hides hF hrep hwf, zt_if_t])
  · ((try simp only [zbd_conv]); simp (disch := first | assumption | omega | trivial) only [↓reduceIte, zbd_some, eq_self, Int.reduceEq, Int.reduceLT, Int.reduceLE, and_self, or_true, true_or, or_false, false_or, if_pos, if_neg, if_true, if_false, true_and, and_true, not_true_eq_false, not_false_eq_true, false_and, and_false, Option.bind_some, zq_t, zq_f, zq0, zq1, zw_id, zcl_x1 hc, hf, zfr_k hF, zfr_r0 hF, zfr_r1 hF, zfr_lk hF, zfr_fk hF, zcl_c3 hc, (zcl_sc hc).2.1, zzc_has hF hrep, ell, zzc_hides hF hrep hwf, fro, zt_if_f])
theorem zA_line3 (h : zA_now S I R X P w t m e) (hl : 0 ≤ l ∧ l < P 0) : zG (d + 10) 104 [.inr (.inr X), .inl l, .inl 3] (S, I, R, T) = some (I (X + 135 + 11 + 9 * l) 2, (S, I, R, T)) := by
  obtain ⟨hc, ⟨hrep, hwf⟩, hset, hlay⟩ := id h; obtain ⟨f, hf⟩ : ∃ f, R X 6 = f := ⟨_, rfl⟩; rw [hf] at hrep; have hF := zcl_fr hc hf; have hrz := zA_rz h; have h0 := hwf.1
  have ell : ∀ d, zG (d + 1) 77 [.inr (.inr (X + 135)), .inl l] (S, I, R, T) = some (X + 135 + 11 + 9 * l, (S, I, R, T)) := fun d => zx_laidLine (zcl_sc hc) (by omega)
  have hk4 := (zs_cl_ll hc (show 0 ≤ l ∧ l < 12 by omega)).2.1
  rw [zm_104]
  ((try simp only [zbd_conv]); simp (disch := first | assumption | omega | trivial) only [↓reduceIte, zbd_some, eq_self, Int.reduceEq, Int.reduceLT, Int.reduceLE, and_self, or_true, true_or, or_false, false_or, if_pos, if_neg, if_true, if_false, true_and, and_true, not_true_eq_false, not_false_eq_true, false_and, and_false, Option.bind_some, zq_t, zq_f, zq0, zq1, zw_id, zcl_x1 hc, hf, zfr_k hF, zfr_r0 hF, zfr_r1 hF, zfr_lk hF, zfr_fk hF, zcl_c3 hc, (zcl_sc hc).2.1, zzc_has hF hrep, ell, hk4])
/-! fold -/
theorem zA_fold0 (h : zA_now S I R X P w t m e) (hk : 0 ≤ k ∧ k < P 493) : zG (d + 10) 109 [.inr (.inr X), .inl k, .inl 0] (S, I, R, T) = some (P (494 + 3 * k), (S, I, R, T)) := by
  obtain ⟨hc, ⟨hrep, hwf⟩, hset, hlay⟩ := id h; obtain ⟨f, hf⟩ : ∃ f, R X 6 = f := ⟨_, rfl⟩; rw [hf] at hrep; have hF := zcl_fr hc hf; have hrz := zA_rz h; have h0 := hwf.1
  rw [zm_109]
  ((try simp only [zbd_conv]); simp (disch := first | assumption | omega | trivial) only [↓reduceIte, zbd_some, eq_self, Int.reduceEq, Int.reduceLT, Int.reduceLE, and_self, or_true, true_or, or_false, false_or, if_pos, if_neg, if_true, if_false, true_and, and_true, not_true_eq_false, not_false_eq_true, false_and, and_false, Option.bind_some, zq_t, zq_f, zq0, zq1, zw_id, zcl_x1 hc, hf, zfr_k hF, zfr_r0 hF, zfr_r1 hF, zfr_lk hF, zfr_fk hF, zcl_c3 hc, (zcl_sc hc).2.1, zzc_Fhas hF hrep, zzc_firstOf hF hrep hwf])
theorem zA_fold1 (h : zA_now S I R X P w t m e) (hk : 0 ≤ k ∧ k < P 493) : zG (d + 10) 109 [.inr (.inr X), .inl k, .inl 1] (S, I, R, T) = some (P (495 + 3 * k), (S, I, R, T)) := by
  obtain ⟨hc, ⟨hrep, hwf⟩, hset, hlay⟩ := id h; obtain ⟨f, hf⟩ : ∃ f, R X 6 = f := ⟨_, rfl⟩; rw [hf] at hrep; have hF := zcl_fr hc hf; have hrz := zA_rz h; have h0 := hwf.1
  rw [zm_109]
  ((try simp only [zbd_conv]); simp (disch := first | assumption | omega | trivial) only [↓reduceIte, zbd_some, eq_self, Int.reduceEq, Int.reduceLT, Int.reduceLE, and_self, or_true, true_or, or_false, false_or, if_pos, if_neg, if_true, if_false, true_and, and_true, not_true_eq_false, not_false_eq_true, false_and, and_false, Option.bind_some, zq_t, zq_f, zq0, zq1, zw_id, zcl_x1 hc, hf, zfr_k hF, zfr_r0 hF, zfr_r1 hF, zfr_lk hF, zfr_fk hF, zcl_c3 hc, (zcl_sc hc).2.1, zzc_Fhas hF hrep, zzc_lastOf hF hrep hwf])
theorem zA_fold2 (h : zA_now S I R X P w t m e) (hk : 0 ≤ k ∧ k < P 493) : zG (d + 10) 109 [.inr (.inr X), .inl k, .inl 2] (S, I, R, T) = some (P (496 + 3 * k), (S, I, R, T)) := by
  obtain ⟨hc, ⟨hrep, hwf⟩, hset, hlay⟩ := id h; obtain ⟨f, hf⟩ : ∃ f, R X 6 = f := ⟨_, rfl⟩; rw [hf] at hrep; have hF := zcl_fr hc hf; have hrz := zA_rz h; have h0 := hwf.1
  have hv := (hwf.2.2.2.1 k hk.1 hk.2).2
  rw [zm_109]
  by_cases gs : P (496 + 3 * k) = 1
  · ((try simp only [zbd_conv]); simp (disch := first | assumption | omega | trivial) only [↓reduceIte, zbd_some, eq_self, Int.reduceEq, Int.reduceLT, Int.reduceLE, and_self, or_true, true_or, or_false, false_or, if_pos, if_neg, if_true, if_false, true_and, and_true, not_true_eq_false, not_false_eq_true, false_and, and_false, Option.bind_some, zq_t, zq_f, zq0, zq1, zw_id, zcl_x1 hc, hf, zfr_k hF, zfr_r0 hF, zfr_r1 hF, zfr_lk hF, zfr_fk hF, zcl_c3 hc, (zcl_sc hc).2.1, zzc_Fhas hF hrep, zzc_isShut hF hrep hwf, gs])
  · have gs' : P (496 + 3 * k) = 0 := by omega
    ((try simp only [zbd_conv]); simp (disch := first | assumption | omega | trivial) only [↓reduceIte, zbd_some, eq_self, Int.reduceEq, Int.reduceLT, Int.reduceLE, and_self, or_true, true_or, or_false, false_or, if_pos, if_neg, if_true, if_false, true_and, and_true, not_true_eq_false, not_false_eq_true, false_and, and_false, Option.bind_some, zq_t, zq_f, zq0, zq1, zw_id, zcl_x1 hc, hf, zfr_k hF, zfr_r0 hF, zfr_r1 hF, zfr_lk hF, zfr_fk hF, zcl_c3 hc, (zcl_sc hc).2.1, zzc_Fhas hF hrep, zzc_isShut hF hrep hwf, gs', Int.reduceEq])
end ZA1
