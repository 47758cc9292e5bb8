/-! the object alone: step, down, edge -/
section ZA8
variable {d : Nat} {S : zS} {I J J0 J1 K R R' : zI} {T : Int × Nat} {X n v l f c k x y z r i j p w t m e a b N nd nu : Int} {P Q : Int → Int} {σ : zM}
/-- the caret has gone to place p of line v -/
def zA_went (I J R : zI) (X v p : Int) : Prop := J = zp_mv I X (R X 6) v p (I (X + 135 + 11 + 9 * v + 2) p)
theorem zA_went_I (h : zA_went I J R X v p) : (∀ q, q ≠ X → q ≠ R X 6 → J q = I q) ∧ (R X 6 ≠ X → J (R X 6) = zi_up (zi_up I (R X 6) 2 v) (R X 6) 3 p (R X 6)) ∧ J X 8 = I (X + 135 + 11 + 9 * v + 2) p := by
  unfold zA_went at h
  rw [h]
  exact ⟨fun q q1 q2 => zp_mv_off q1 q2, fun q => zp_mv_f q, zp_mv_8⟩
theorem zA_went_A (h : zA S I R X P w t m e nd nu) (hl : 0 ≤ v ∧ v < P 0) (hp : 0 ≤ p ∧ p ≤ P (1 + v)) (hs : I (X + 135 + 11 + 9 * v + 5) p = 1) (nh : ¬ zt_hid P v) (hw : zA_went I J R X v p) : zA S J R X (zt_up (zt_up P 518 v) 519 p) w t m e nd nu := by
  obtain ⟨g1, g2, -⟩ := zA_went_I hw
  have lo := zs_fa_lo (zcl_fa6 h.1.1 rfl)
  exact zA_move h rfl hl hp hs nh g1 (g2 (by omega))
/-- step -/
theorem zA_step (h : zA S I R X P w t m e nd nu) (hx : x = 0 ∨ x = 1) : ∃ y J, zG (d + 10) 111 [.inr (.inr X), .inl x] (S, I, R, T) = some (y, (S, J, R, T)) ∧ ((y = -4 ∧ J = I) ∨ ∃ v, (0 ≤ v ∧ v < P 0) ∧ (0 ≤ y ∧ y ≤ P (1 + v)) ∧ I (X + 135 + 11 + 9 * v + 5) y = 1 ∧ ¬ zt_hid P v ∧ zA_went I J R X v y) ∧ (x = 0 → (zl_pv (P 519) (fun j => I (X + 135 + 11 + 9 * P 518 + 5) j = 1) y ∧ 0 ≤ y ∧ zA_went I J R X (P 518) y) ∨ ((∀ k, 0 ≤ k → k < P 519 → ¬ I (X + 135 + 11 + 9 * P 518 + 5) k = 1) ∧ ((y = -4 ∧ ∀ k, 0 ≤ k → k < P 518 → zt_hid P k) ∨ ∃ v, (0 ≤ v ∧ v < P 518) ∧ ¬ zt_hid P v ∧ (∀ k, v < k → k < P 518 → zt_hid P k) ∧ y = P (1 + v) ∧ zA_went I J R X v y))) ∧ (x = 1 → (P 519 < P (1 + P 518) ∧ zl_nx (P 519 + 1) (P (1 + P 518)) (fun j => I (X + 135 + 11 + 9 * P 518 + 5) j = 1) y ∧ zA_went I J R X (P 518) y) ∨ (P 519 = P (1 + P 518) ∧ (y = -4 ∨ ∃ v, (P 518 < v ∧ v < P 0) ∧ ¬ zt_hid P v ∧ (∀ k, P 518 < k → k < v → zt_hid P k) ∧ y = 0 ∧ zA_went I J R X v y))) := by
  obtain ⟨hn, hcs, hhis⟩ := id h
  obtain ⟨hc, ⟨hrep, hwf⟩, hset, hlay⟩ := id hn; obtain ⟨f, hf⟩ : ∃ f, R X 6 = f := ⟨_, rfl⟩; rw [hf] at hrep; have hF := zcl_fr hc hf; have hrz := zA_rz hn; have h0 := hwf.1; have lof := zs_fa_lo (zcl_fa6 hc hf)
  obtain ⟨w6, w7, w8⟩ := hwf.2.2.2.2.2
  have c6 : I f 2 = P 518 := hrep.2.2.2.2.2.1
  have c7 : I f 3 = P 519 := hrep.2.2.2.2.2.2
  have hnl := zA_len hn w6
  have nhl := hcs.2
  obtain ⟨l, hl⟩ : ∃ l, l = P 518 := ⟨_, rfl⟩
  obtain ⟨i, hi⟩ : ∃ i, i = P 519 := ⟨_, rfl⟩
  rw [← hl] at w6 w8 c6 hnl nhl
  rw [← hi] at w7 w8 c7
  rw [← hl, ← hi]
  have hll := zs_cl_ll hc (show 0 ≤ l ∧ l < 12 by omega)
  have ell : ∀ d, zG (d + 1) 77 [.inr (.inr (X + 135)), .inl l] (S, I, R, T) = some (X + 135 + 11 + 9 * l, (S, I, R, T)) := fun d => zx_laidLine (zcl_sc hc) (by omega)
  have hk4 := hll.2.1
  have pn := (zA_pic hn w6).1
  have mvc : ∀ v p, (0 ≤ v ∧ v < P 0) → (0 ≤ p ∧ p ≤ P (1 + v)) → zG (d + 9) 128 [.inr (.inr X), .inl v, .inl p] (S, I, R, T) = some (0, (S, zp_mv I X f v p (I (X + 135 + 11 + 9 * v + 2) p), R, T)) := fun v p hv hp => by
    have := zA_len hn hv
    exact zx_mv (d := d + 5) hc hf (by omega) (by omega)
  have wt : ∀ v p, zA_went I (zp_mv I X f v p (I (X + 135 + 11 + 9 * v + 2) p)) R X v p := fun v p => by
    unfold zA_went
    rw [hf]
  have st0 := fun v hv => zA_ends (l := v) hn hv
  rcases hx with gx | gx <;> subst gx
  · obtain ⟨y, y1, y2⟩ := zx_stopAhead (d := d + 6) (I := I) (T := T) (i := i) hll (by omega)
    by_cases gy : y < 0
    · have hy : y = -1 := by
        rcases y2.1 with z | z
        · omega
        · exact z
      have no : ∀ k, 0 ≤ k → k < i → ¬ I (X + 135 + 11 + 9 * l + 5) k = 1 := fun k k1 k2 => y2.2 k (by omega) k2
      obtain ⟨v, v1, v2, v3⟩ := zx_shownAhead (d := d + 5) (I := I) (T := T) hF (by rw [hrep.2.2.2.1]; exact hwf.2.2.1.2) (by rw [c6]; omega)
      rw [c6] at v2 v3
      have v2' : ∀ j, v < j → j < l → zt_hid P j := fun j j1 j2 => (zf_hid_iff hrep).mp (v2 j j1 j2)
      by_cases gv : v < 0
      · have hv : v = -1 := by
          rcases v3 with ⟨a1, -⟩ | a1
          · omega
          · exact a1
        refine ⟨-4, I, ?_, Or.inl ⟨rfl, rfl⟩, fun _ => Or.inr ⟨no, Or.inl ⟨rfl, fun k k1 k2 => v2' k (by omega) k2⟩⟩, fun z => absurd z (by omega)⟩
        rw [zm_111]
        ((try simp only [zbd_conv]); simp (disch := first | assumption | omega | trivial) only [↓reduceIte, zbd_some, eq_self, Int.reduceEq, Int.reduceLT, Int.reduceLE, and_self, or_true, true_or, or_false, false_or, if_pos, if_neg, if_true, if_false, true_and, and_true, not_true_eq_false, not_false_eq_true, false_and, and_false, Option.bind_some, zq_t, zq_f, zq0, zq1, zw_id, zcl_x1 hc, hf, zfr_k hF, zfr_r0 hF, zfr_r1 hF, zfr_lk hF, zfr_fk hF, zcl_c3 hc, (zcl_sc hc).2.1, c6, c7, ell, hk4, y1])
        rw [zk_111_55]
        ((try simp only [zbd_conv]); simp (disch := first | assumption | omega | trivial) only [↓reduceIte, zbd_some, eq_self, Int.reduceEq, Int.reduceLT, Int.reduceLE, and_self, or_true, true_or, or_false, false_or, if_pos, if_neg, if_true, if_false, true_and, and_true, not_true_eq_false, not_false_eq_true, false_and, and_false, Option.bind_some, zq_t, zq_f, zq0, zq1, zw_id, zcl_x1 hc, hf, zfr_k hF, zfr_r0 hF, zfr_r1 hF, zfr_lk hF, zfr_fk hF, zcl_c3 hc, (zcl_sc hc).2.1, v1])
        rw [zk_111_95]
        ((try simp only [zbd_conv]); simp (disch := first | assumption | omega | trivial) only [↓reduceIte, zbd_some, eq_self, Int.reduceEq, Int.reduceLT, Int.reduceLE, and_self, or_true, true_or, or_false, false_or, if_pos, if_neg, if_true, if_false, true_and, and_true, not_true_eq_false, not_false_eq_true, false_and, and_false, Option.bind_some, zq_t, zq_f, zq0, zq1, zw_id])
      · have hv : 0 ≤ v ∧ v < l ∧ ¬ zt_hid P v := by
          rcases v3 with ⟨a1, a2, a3⟩ | a1
          · exact ⟨a1, a2, fun z => a3 ((zf_hid_iff hrep).mpr z)⟩
          · omega
        have hnv := zA_len hn (l := v) (by omega)
        have mv := mvc v (P (1 + v)) (by omega) ⟨hnv.1, Int.le_refl _⟩
        have f3 : zp_mv I X f v (P (1 + v)) (I (X + 135 + 11 + 9 * v + 2) (P (1 + v))) f 3 = P (1 + v) := by rw [zp_mv_f (by omega), zu_eq ⟨rfl, rfl⟩]
        refine ⟨P (1 + v), zp_mv I X f v (P (1 + v)) (I (X + 135 + 11 + 9 * v + 2) (P (1 + v))), ?_, Or.inr ⟨v, by omega, ⟨hnv.1, Int.le_refl _⟩, (st0 v (by omega)).2, hv.2.2, wt v _⟩, fun _ => Or.inr ⟨no, Or.inr ⟨v, by omega, hv.2.2, v2', rfl, wt v _⟩⟩, fun z => absurd z (by omega)⟩
        rw [zm_111]
        ((try simp only [zbd_conv]); simp (disch := first | assumption | omega | trivial) only [↓reduceIte, zbd_some, eq_self, Int.reduceEq, Int.reduceLT, Int.reduceLE, and_self, or_true, true_or, or_false, false_or, if_pos, if_neg, if_true, if_false, true_and, and_true, not_true_eq_false, not_false_eq_true, false_and, and_false, Option.bind_some, zq_t, zq_f, zq0, zq1, zw_id, zcl_x1 hc, hf, zfr_k hF, zfr_r0 hF, zfr_r1 hF, zfr_lk hF, zfr_fk hF, zcl_c3 hc, (zcl_sc hc).2.1, c6, c7, ell, hk4, y1])
        rw [zk_111_55]
        ((try simp only [zbd_conv]); simp (disch := first | assumption | omega | trivial) only [↓reduceIte, zbd_some, eq_self, Int.reduceEq, Int.reduceLT, Int.reduceLE, and_self, or_true, true_or, or_false, false_or, if_pos, if_neg, if_true, if_false, true_and, and_true, not_true_eq_false, not_false_eq_true, false_and, and_false, Option.bind_some, zq_t, zq_f, zq0, zq1, zw_id, zcl_x1 hc, hf, zfr_k hF, zfr_r0 hF, zfr_r1 hF, zfr_lk hF, zfr_fk hF, zcl_c3 hc, (zcl_sc hc).2.1, v1])
        rw [zk_111_95]
        ((try simp only [zbd_conv]); simp (disch := first | assumption | omega | trivial) only [↓reduceIte, zbd_some, eq_self, Int.reduceEq, Int.reduceLT, Int.reduceLE, and_self, or_true, true_or, or_false, false_or, if_pos, if_neg, if_true, if_false, true_and, and_true, not_true_eq_false, not_false_eq_true, false_and, and_false, Option.bind_some, zq_t, zq_f, zq0, zq1, zw_id, zcl_x1 hc, hf, zfr_k hF, zfr_r0 hF, zfr_r1 hF, zfr_lk hF, zfr_fk hF, zcl_c3 hc, (zcl_sc hc).2.1, zzc_length hF hrep hwf, mv, f3])
    · have hy : 0 ≤ y ∧ y < i ∧ I (X + 135 + 11 + 9 * l + 5) y = 1 := by
        rcases y2.1 with z | z
        · exact z
        · omega
      have mv := mvc l y w6 (by omega)
      refine ⟨y, zp_mv I X f l y (I (X + 135 + 11 + 9 * l + 2) y), ?_, Or.inr ⟨l, w6, by omega, hy.2.2, nhl, wt l y⟩, fun _ => Or.inl ⟨y2, hy.1, wt l y⟩, fun z => absurd z (by omega)⟩
      rw [zm_111]
      ((try simp only [zbd_conv]); simp (disch := first | assumption | omega | trivial) only [↓reduceIte, zbd_some, eq_self, Int.reduceEq, Int.reduceLT, Int.reduceLE, and_self, or_true, true_or, or_false, false_or, if_pos, if_neg, if_true, if_false, true_and, and_true, not_true_eq_false, not_false_eq_true, false_and, and_false, Option.bind_some, zq_t, zq_f, zq0, zq1, zw_id, zcl_x1 hc, hf, zfr_k hF, zfr_r0 hF, zfr_r1 hF, zfr_lk hF, zfr_fk hF, zcl_c3 hc, (zcl_sc hc).2.1, c6, c7, ell, hk4, y1])
      rw [zk_111_55]
      ((try simp only [zbd_conv]); simp (disch := first | assumption | omega | trivial) only [↓reduceIte, zbd_some, eq_self, Int.reduceEq, Int.reduceLT, Int.reduceLE, and_self, or_true, true_or, or_false, false_or, if_pos, if_neg, if_true, if_false, true_and, and_true, not_true_eq_false, not_false_eq_true, false_and, and_false, Option.bind_some, zq_t, zq_f, zq0, zq1, zw_id, zcl_x1 hc, hf, zfr_k hF, zfr_r0 hF, zfr_r1 hF, zfr_lk hF, zfr_fk hF, zcl_c3 hc, (zcl_sc hc).2.1, c6, mv])
  · obtain ⟨y, y1, y2⟩ := zx_stopBehind (d := d + 5) (I := I) (T := T) (i := i) hll (by rw [pn]; exact ⟨w7, w8⟩) (by rw [pn]; exact hnl.2)
    rw [pn] at y2
    by_cases gy : y < 0
    · have hin : i = P (1 + l) := by
        rcases y2 with ⟨z1, z2⟩ | z
        · have := z2.1; omega
        · exact z.1
      obtain ⟨v, v1, v2⟩ := zx_shownBehind (d := d + 5) (I := I) (T := T) hF (by rw [hrep.2.2.2.1]; exact hwf.2.2.1.2) (by rw [hrep.1]; omega) (by rw [c6, hrep.1]; exact w6)
      rw [c6, hrep.1] at v2
      by_cases gv : v < 0
      · refine ⟨-4, I, ?_, Or.inl ⟨rfl, rfl⟩, fun z => absurd z (by omega), fun _ => Or.inr ⟨hin, Or.inl rfl⟩⟩
        rw [zm_111]
        ((try simp only [zbd_conv]); simp (disch := first | assumption | omega | trivial) only [↓reduceIte, zbd_some, eq_self, Int.reduceEq, Int.reduceLT, Int.reduceLE, and_self, or_true, true_or, or_false, false_or, if_pos, if_neg, if_true, if_false, true_and, and_true, not_true_eq_false, not_false_eq_true, false_and, and_false, Option.bind_some, zq_t, zq_f, zq0, zq1, zw_id, zcl_x1 hc, hf, zfr_k hF, zfr_r0 hF, zfr_r1 hF, zfr_lk hF, zfr_fk hF, zcl_c3 hc, (zcl_sc hc).2.1, c6, c7, ell, hk4, y1])
        rw [zk_111_55]
        ((try simp only [zbd_conv]); simp (disch := first | assumption | omega | trivial) only [↓reduceIte, zbd_some, eq_self, Int.reduceEq, Int.reduceLT, Int.reduceLE, and_self, or_true, true_or, or_false, false_or, if_pos, if_neg, if_true, if_false, true_and, and_true, not_true_eq_false, not_false_eq_true, false_and, and_false, Option.bind_some, zq_t, zq_f, zq0, zq1, zw_id, zcl_x1 hc, hf, zfr_k hF, zfr_r0 hF, zfr_r1 hF, zfr_lk hF, zfr_fk hF, zcl_c3 hc, (zcl_sc hc).2.1, v1])
        rw [zk_111_95]
        ((try simp only [zbd_conv]); simp (disch := first | assumption | omega | trivial) only [↓reduceIte, zbd_some, eq_self, Int.reduceEq, Int.reduceLT, Int.reduceLE, and_self, or_true, true_or, or_false, false_or, if_pos, if_neg, if_true, if_false, true_and, and_true, not_true_eq_false, not_false_eq_true, false_and, and_false, Option.bind_some, zq_t, zq_f, zq0, zq1, zw_id])
      · have hv : (l < v ∧ v < P 0) ∧ ¬ zt_hid P v ∧ ∀ j, l < j → j < v → zt_hid P j := by
          rcases v2 with ⟨a1, a2, a3, a4⟩ | ⟨a1, a2⟩
          · exact ⟨⟨a1, a2⟩, fun z => a3 ((zf_hid_iff hrep).mpr z), fun j j1 j2 => (zf_hid_iff hrep).mp (a4 j j1 j2)⟩
          · omega
        have hnv := zA_len hn (l := v) (by omega)
        have mv := mvc v 0 (by omega) ⟨Int.le_refl _, hnv.1⟩
        have f3 : zp_mv I X f v 0 (I (X + 135 + 11 + 9 * v + 2) 0) f 3 = 0 := by rw [zp_mv_f (by omega), zu_eq ⟨rfl, rfl⟩]
        refine ⟨0, zp_mv I X f v 0 (I (X + 135 + 11 + 9 * v + 2) 0), ?_, Or.inr ⟨v, by omega, ⟨Int.le_refl _, hnv.1⟩, (st0 v (by omega)).1, hv.2.1, wt v _⟩, fun z => absurd z (by omega), fun _ => Or.inr ⟨hin, Or.inr ⟨v, hv.1, hv.2.1, hv.2.2, rfl, wt v _⟩⟩⟩
        rw [zm_111]
        ((try simp only [zbd_conv]); simp (disch := first | assumption | omega | trivial) only [↓reduceIte, zbd_some, eq_self, Int.reduceEq, Int.reduceLT, Int.reduceLE, and_self, or_true, true_or, or_false, false_or, if_pos, if_neg, if_true, if_false, true_and, and_true, not_true_eq_false, not_false_eq_true, false_and, and_false, Option.bind_some, zq_t, zq_f, zq0, zq1, zw_id, zcl_x1 hc, hf, zfr_k hF, zfr_r0 hF, zfr_r1 hF, zfr_lk hF, zfr_fk hF, zcl_c3 hc, (zcl_sc hc).2.1, c6, c7, ell, hk4, y1])
        rw [zk_111_55]
        ((try simp only [zbd_conv]); simp (disch := first | assumption | omega | trivial) only [↓reduceIte, zbd_some, eq_self, Int.reduceEq, Int.reduceLT, Int.reduceLE, and_self, or_true, true_or, or_false, false_or, if_pos, if_neg, if_true, if_false, true_and, and_true, not_true_eq_false, not_false_eq_true, false_and, and_false, Option.bind_some, zq_t, zq_f, zq0, zq1, zw_id, zcl_x1 hc, hf, zfr_k hF, zfr_r0 hF, zfr_r1 hF, zfr_lk hF, zfr_fk hF, zcl_c3 hc, (zcl_sc hc).2.1, v1])
        rw [zk_111_95]
        ((try simp only [zbd_conv]); simp (disch := first | assumption | omega | trivial) only [↓reduceIte, zbd_some, eq_self, Int.reduceEq, Int.reduceLT, Int.reduceLE, and_self, or_true, true_or, or_false, false_or, if_pos, if_neg, if_true, if_false, true_and, and_true, not_true_eq_false, not_false_eq_true, false_and, and_false, Option.bind_some, zq_t, zq_f, zq0, zq1, zw_id, zcl_x1 hc, hf, zfr_k hF, zfr_r0 hF, zfr_r1 hF, zfr_lk hF, zfr_fk hF, zcl_c3 hc, (zcl_sc hc).2.1, mv, f3])
    · have hy : i < P (1 + l) ∧ zl_nx (i + 1) (P (1 + l)) (fun j => I (X + 135 + 11 + 9 * l + 5) j = 1) y := by
        rcases y2 with z | z
        · exact z
        · omega
      have hyb := hy.2.1
      have hyc := hy.2.2.1
      have hys : I (X + 135 + 11 + 9 * l + 5) y = 1 := by
        rcases hy.2.2.2.1 with z | z
        · rw [z]; exact (st0 l w6).2
        · exact z
      have mv := mvc l y w6 (by omega)
      refine ⟨y, zp_mv I X f l y (I (X + 135 + 11 + 9 * l + 2) y), ?_, Or.inr ⟨l, w6, by omega, hys, nhl, wt l y⟩, fun z => absurd z (by omega), fun _ => Or.inl ⟨hy.1, hy.2, wt l y⟩⟩
      rw [zm_111]
      ((try simp only [zbd_conv]); simp (disch := first | assumption | omega | trivial) only [↓reduceIte, zbd_some, eq_self, Int.reduceEq, Int.reduceLT, Int.reduceLE, and_self, or_true, true_or, or_false, false_or, if_pos, if_neg, if_true, if_false, true_and, and_true, not_true_eq_false, not_false_eq_true, false_and, and_false, Option.bind_some, zq_t, zq_f, zq0, zq1, zw_id, zcl_x1 hc, hf, zfr_k hF, zfr_r0 hF, zfr_r1 hF, zfr_lk hF, zfr_fk hF, zcl_c3 hc, (zcl_sc hc).2.1, c6, c7, ell, hk4, y1])
      rw [zk_111_55]
      ((try simp only [zbd_conv]); simp (disch := first | assumption | omega | trivial) only [↓reduceIte, zbd_some, eq_self, Int.reduceEq, Int.reduceLT, Int.reduceLE, and_self, or_true, true_or, or_false, false_or, if_pos, if_neg, if_true, if_false, true_and, and_true, not_true_eq_false, not_false_eq_true, false_and, and_false, Option.bind_some, zq_t, zq_f, zq0, zq1, zw_id, zcl_x1 hc, hf, zfr_k hF, zfr_r0 hF, zfr_r1 hF, zfr_lk hF, zfr_fk hF, zcl_c3 hc, (zcl_sc hc).2.1, c6, mv])
/-- down -/
theorem zA_down (h : zA S I R X P w t m e nd nu) (hx : -10 ≤ x ∧ x ≤ 10) {cr : Int} (hcr : cr = zA_B I X P (P 518) + I (X + 135 + 11 + 9 * P 518 + 1) (P 519)) (hr : r = if cr + x < 0 then 0 else if zA_B I X P (P 0) - 1 < cr + x then zA_B I X P (P 0) - 1 else cr + x) : ∃ v p, (0 ≤ r ∧ r < zA_B I X P (P 0)) ∧ (0 ≤ v ∧ v < P 0) ∧ zA_B I X P v ≤ r ∧ r < zA_B I X P (v + 1) ∧ zl_lst (I (X + 135 + 11 + 9 * v + 7) (r - zA_B I X P v)) (P (1 + v) + 1) (fun i => I (X + 135 + 11 + 9 * v + 1) i = r - zA_B I X P v ∧ I (X + 135 + 11 + 9 * v + 5) i = 1 ∧ I (X + 135 + 11 + 9 * v + 2) i ≤ I X 8) p ∧ zG (d + 10) 112 [.inr (.inr X), .inl x] (S, I, R, T) = some (r, (S, zi_up (zi_up I (R X 6) 2 v) (R X 6) 3 p, R, T)) ∧ zA S (zi_up (zi_up I (R X 6) 2 v) (R X 6) 3 p) R X (zt_up (zt_up P 518 v) 519 p) w t m e nd nu := by
  obtain ⟨hn, hcs, hhis⟩ := id h
  obtain ⟨hc, ⟨hrep, hwf⟩, hset, hlay⟩ := id hn; obtain ⟨f, hf⟩ : ∃ f, R X 6 = f := ⟨_, rfl⟩; rw [hf] at hrep; have hF := zcl_fr hc hf; have hrz := zA_rz hn; have h0 := hwf.1; have lof := zs_fa_lo (zcl_fa6 hc hf)
  rw [hf]
  have bt := zA_Bt hn
  have ccr := zA_crow (d := d + 3) (T := T) hn
  rw [← hcr] at ccr
  have b1 := zA_Bi hn (v := P 518) (by have := (zA_car hn).1; omega)
  have b2 := (zA_pl hn (zA_car hn).1 (zA_car hn).2).1
  have b3 := zA_nrows hn (zA_car hn).1
  obtain ⟨tt, htt⟩ : ∃ tt, tt = zA_B I X P (P 0) := ⟨_, rfl⟩
  rw [← htt] at hr bt ⊢
  have hrb : 0 ≤ r ∧ r < tt := by
    rw [hr]
    split
    · omega
    · split <;> omega
  obtain ⟨v, hv, h1, h2⟩ := zA_Bf hn (r := r) (by rw [← htt]; exact hrb)
  obtain ⟨nh, k1, k2, -⟩ := zA_Bv hn hv h1 h2
  have hnv := zA_len hn hv
  have pic := zA_pic hn hv
  have nr := zA_nrows hn hv
  have bv := zA_Bi hn (v := v) (by omega)
  have hll := zs_cl_ll hc (show 0 ≤ v ∧ v < 12 by omega)
  have hk4 := hll.2.1
  have ell : ∀ d, zG (d + 1) 77 [.inr (.inr (X + 135)), .inl v] (S, I, R, T) = some (X + 135 + 11 + 9 * v, (S, I, R, T)) := fun d => zx_laidLine (zcl_sc hc) (by omega)
  have fp := (zA_fp hn hv).2.2 _ k1 k2
  obtain ⟨p, p1, p2⟩ := zx_placeNear (d := d + 6) (I := I) (T := T) (r := r - zA_B I X P v) (x := I X 8) hll (by omega) (by rw [pic.1]; omega) (by rw [pic.1]; exact hnv.2)
  rw [pic.1] at p2
  have hp : 0 ≤ p ∧ p ≤ P (1 + v) := by
    rcases p2 with ⟨z1, z2, -⟩ | ⟨z1, -⟩ <;> omega
  have hs : I (X + 135 + 11 + 9 * v + 5) p = 1 := by
    rcases p2 with ⟨z1, z2, ⟨-, z3, -⟩, -⟩ | ⟨z1, -⟩
    · exact z3
    · rw [z1]; exact fp.2.2.2
  have lor := fun d => zA_lor (d := d) (T := T) hn hf hv h1 h2
  have fro := fun d => zA_fro (d := d) (T := T) hn hf (v := v) (by omega)
  have rct := fun d => zA_rct (d := d) (T := T) hn hf
  rw [← htt] at rct
  refine ⟨v, p, hrb, hv, h1, h2, p2, ?_, zA_move h hf hv hp hs nh (fun q q1 q2 => by rw [zu_off q2, zu_off q2]) rfl⟩
  have mn : ∀ u w σ d, zG (d + 1) 1004 [.inr (.inl u), .inr (.inl w)] σ = some (if w < u then w else u, σ) := fun u w σ d => rfl
  have mx : ∀ u w σ d, zG (d + 1) 1003 [.inr (.inl u), .inr (.inl w)] σ = some (if w < u then u else w, σ) := fun u w σ d => rfl
  have er : (if (if tt - 1 < cr + x then tt - 1 else cr + x) < 0 then 0 else (if tt - 1 < cr + x then tt - 1 else cr + x)) = r := by
    rw [hr]
    by_cases q1 : tt - 1 < cr + x
    · simp only [if_pos q1]
      rw [if_neg (by omega), if_neg (by omega)]
    · simp only [if_neg q1]
  have cmp : ¬ 0 < (if 2147483647 < cr + x then (1 : Int) else if cr + x = 2147483647 then 0 else -1) := by
    rw [if_neg (by omega)]
    split <;> omega
  rw [zm_112]
  ((try simp only [zbd_conv]); simp (disch := first | assumption | omega | trivial) only [↓reduceIte, zbd_some, eq_self, Int.reduceEq, Int.reduceLT, Int.reduceLE, and_self, or_true, true_or, or_false, false_or, if_pos, if_neg, if_true, if_false, true_and, and_true, not_true_eq_false, not_false_eq_true, false_and, and_false, Option.bind_some, zq_t, zq_f, zq0, zq1, zw_id, zcl_x1 hc, hf, zfr_k hF, zfr_r0 hF, zfr_r1 hF, zfr_lk hF, zfr_fk hF, zcl_c3 hc, (zcl_sc hc).2.1, ccr, zw64_id, cmp, rct, mn, mx, er, lor, ell, fro, hk4, p1, zwr])
/-- edge -/
theorem zA_edge (h : zA S I R X P w t m e nd nu) (hx : x = 0 ∨ x = 1) : ∃ y J Q, zG (d + 10) 113 [.inr (.inr X), .inl x] (S, I, R, T) = some (y, (S, J, R, T)) ∧ zA S J R X Q w t m e nd nu := by
  obtain ⟨hn, hcs, hhis⟩ := id h
  obtain ⟨hc, ⟨hrep, hwf⟩, hset, hlay⟩ := id hn; obtain ⟨f, hf⟩ : ∃ f, R X 6 = f := ⟨_, rfl⟩; rw [hf] at hrep; have hF := zcl_fr hc hf; have hrz := zA_rz hn; have h0 := hwf.1; have lof := zs_fa_lo (zcl_fa6 hc hf)
  obtain ⟨w6, w7, w8⟩ := hwf.2.2.2.2.2
  have c6 : I f 2 = P 518 := hrep.2.2.2.2.2.1
  have c7 : I f 3 = P 519 := hrep.2.2.2.2.2.2
  have hnl := zA_len hn w6
  have nhl := hcs.2
  have prow := zA_pl hn w6 ⟨w7, w8⟩
  have nr := zA_nrows hn w6
  have pic := zA_pic hn w6
  obtain ⟨l, hl⟩ : ∃ l, l = P 518 := ⟨_, rfl⟩
  obtain ⟨i, hi⟩ : ∃ i, i = P 519 := ⟨_, rfl⟩
  rw [← hl] at w6 w8 c6 hnl nhl prow nr pic
  rw [← hi] at w7 w8 c7 prow
  have hll := zs_cl_ll hc (show 0 ≤ l ∧ l < 12 by omega)
  have ell : ∀ d, zG (d + 1) 77 [.inr (.inr (X + 135)), .inl l] (S, I, R, T) = some (X + 135 + 11 + 9 * l, (S, I, R, T)) := fun d => zx_laidLine (zcl_sc hc) (by omega)
  have hk4 := hll.2.1
  obtain ⟨o, ho⟩ : ∃ o, o = I (X + 135 + 11 + 9 * l + 1) i := ⟨_, rfl⟩
  rw [← ho] at prow
  have fp := (zA_fp hn w6).2.2 o prow.1.1 prow.1.2
  have rof : ∀ d, zG (d + 2) 40 [.inr (.inr (X + 135 + 11 + 9 * l)), .inl i] (S, I, R, T) = some (o, (S, I, R, T)) := fun d => by
    rw [zx_rowOf hll, zk_pk_in (by omega), ho]
  have mvc : ∀ p, (0 ≤ p ∧ p ≤ P (1 + l)) → zG (d + 9) 128 [.inr (.inr X), .inl l, .inl p] (S, I, R, T) = some (0, (S, zp_mv I X f l p (I (X + 135 + 11 + 9 * l + 2) p), R, T)) := fun p hp => zx_mv (d := d + 5) hc hf (by omega) (by omega)
  have wt : ∀ p, zA_went I (zp_mv I X f l p (I (X + 135 + 11 + 9 * l + 2) p)) R X l p := fun p => by
    unfold zA_went
    rw [hf]
  by_cases g0 : x = 0
  · subst g0
    have mv := mvc (I (X + 135 + 11 + 9 * l + 7) o) (by omega)
    refine ⟨I (X + 135 + 11 + 9 * l + 7) o, _, _, ?_, zA_went_A h w6 (p := I (X + 135 + 11 + 9 * l + 7) o) (by omega) fp.2.2.2 nhl (wt _)⟩
    rw [zm_113]
    ((try simp only [zbd_conv]); simp (disch := first | assumption | omega | trivial) only [↓reduceIte, zbd_some, eq_self, Int.reduceEq, Int.reduceLT, Int.reduceLE, and_self, or_true, true_or, or_false, false_or, if_pos, if_neg, if_true, if_false, true_and, and_true, not_true_eq_false, not_false_eq_true, false_and, and_false, Option.bind_some, zq_t, zq_f, zq0, zq1, zw_id])
    rw [zk_113_11]
    ((try simp only [zbd_conv]); simp (disch := first | assumption | omega | trivial) only [↓reduceIte, zbd_some, eq_self, Int.reduceEq, Int.reduceLT, Int.reduceLE, and_self, or_true, true_or, or_false, false_or, if_pos, if_neg, if_true, if_false, true_and, and_true, not_true_eq_false, not_false_eq_true, false_and, and_false, Option.bind_some, zq_t, zq_f, zq0, zq1, zw_id, zcl_x1 hc, hf, zfr_k hF, zfr_r0 hF, zfr_r1 hF, zfr_lk hF, zfr_fk hF, zcl_c3 hc, (zcl_sc hc).2.1, c6, c7, ell, hk4, rof, zx_firstPlace hll, zk_pk_in, mv])
  · obtain rfl : x = 1 := by omega
    obtain ⟨v, y1⟩ := zx_placeNear (d := d + 6) (I := I) (T := T) (r := o) (x := 2147483647) hll (by omega) (by rw [pic.1]; omega) (by rw [pic.1]; exact hnl.2)
    rw [pic.1] at y1
    have hv : 0 ≤ v ∧ v ≤ P (1 + l) := by
      rcases y1.2 with ⟨z1, z2, -⟩ | ⟨z1, -⟩ <;> omega
    have hsv : I (X + 135 + 11 + 9 * l + 5) v = 1 := by
      rcases y1.2 with ⟨z1, z2, ⟨z3, z4, z5⟩, -⟩ | ⟨z1, -⟩
      · exact z4
      · rw [z1]; exact fp.2.2.2
    have mv := mvc v hv
    refine ⟨v, _, _, ?_, zA_went_A h w6 hv hsv nhl (wt _)⟩
    rw [zm_113]
    ((try simp only [zbd_conv]); simp (disch := first | assumption | omega | trivial) only [↓reduceIte, zbd_some, eq_self, Int.reduceEq, Int.reduceLT, Int.reduceLE, and_self, or_true, true_or, or_false, false_or, if_pos, if_neg, if_true, if_false, true_and, and_true, not_true_eq_false, not_false_eq_true, false_and, and_false, Option.bind_some, zq_t, zq_f, zq0, zq1, zw_id])
    rw [zk_113_11]
    ((try simp only [zbd_conv]); simp (disch := first | assumption | omega | trivial) only [↓reduceIte, zbd_some, eq_self, Int.reduceEq, Int.reduceLT, Int.reduceLE, and_self, or_true, true_or, or_false, false_or, if_pos, if_neg, if_true, if_false, true_and, and_true, not_true_eq_false, not_false_eq_true, false_and, and_false, Option.bind_some, zq_t, zq_f, zq0, zq1, zw_id, zcl_x1 hc, hf, zfr_k hF, zfr_r0 hF, zfr_r1 hF, zfr_lk hF, zfr_fk hF, zcl_c3 hc, (zcl_sc hc).2.1, c6, c7, ell, hk4, rof, y1.1, mv])
end ZA8
