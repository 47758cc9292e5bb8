/-! a setting is another, and all is laid anew on both sides -/
section ZSt
variable {d : Nat} {S : zS} {I J K R : zI} {T : Int × Nat} {X M n v l f c k x y z r i p : Int}
theorem zy_setting (hm : zs_mo S R M) (hx : 0 ≤ x ∧ x ≤ 3) : zG (d + 1) 230 [.inr (.inr M), .inl x] (S, I, R, T) = some (I M (6 + x), (S, I, R, T)) := by
  rw [zm_230]
  rcases (show x = 0 ∨ x = 1 ∨ x = 2 ∨ x = 3 by omega) with e | e | e | e <;> subst e <;> ((try simp only [zbd_conv]); simp (disch := first | assumption | omega | trivial) only [↓reduceIte, zbd_some, eq_self, Int.reduceEq, Int.reduceLT, Int.reduceLE, and_self, or_true, true_or, or_false, false_or, if_pos, if_neg, if_true, if_false, true_and, and_true, not_true_eq_false, not_false_eq_true, false_and, and_false, Option.bind_some, zq_t, zq_f, zq0, zq1, zw_id, zmo_1 hm, Int.reduceAdd])
theorem zy_sets (hm : zs_mo S R M) (hx : 0 ≤ x ∧ x ≤ 3) : zG (d + 1) 231 [.inr (.inr M), .inl x, .inl v] (S, I, R, T) = some (0, (S, zi_up I M (6 + x) v, R, T)) := by
  rw [zm_231]
  rcases (show x = 0 ∨ x = 1 ∨ x = 2 ∨ x = 3 by omega) with e | e | e | e <;> subst e <;> ((try simp only [zbd_conv]); simp (disch := first | assumption | omega | trivial) only [↓reduceIte, zbd_some, eq_self, Int.reduceEq, Int.reduceLT, Int.reduceLE, and_self, or_true, true_or, or_false, false_or, if_pos, if_neg, if_true, if_false, true_and, and_true, not_true_eq_false, not_false_eq_true, false_and, and_false, Option.bind_some, zq_t, zq_f, zq0, zq1, zw_id, zmo_1 hm, Int.reduceAdd, zwr])
theorem zy_setno (hm : zs_mo S R M) (ha : ¬ zf_allow x v) : zG (d + 3) 232 [.inr (.inr M), .inl x, .inl v] (S, I, R, T) = some (-1, (S, I, R, T)) := by
  rw [zm_232]
  unfold zf_allow at ha
  by_cases hx : 0 ≤ x ∧ x ≤ 3
  · rcases (show x = 0 ∨ x = 1 ∨ x = 2 ∨ x = 3 by omega) with e | e | e | e <;> subst e
    · ((try simp only [zbd_conv]); simp (disch := first | assumption | omega | trivial) only [↓reduceIte, zbd_some, eq_self, Int.reduceEq, Int.reduceLT, Int.reduceLE, and_self, or_true, true_or, or_false, false_or, if_pos, if_neg, if_true, if_false, true_and, and_true, not_true_eq_false, not_false_eq_true, false_and, and_false, Option.bind_some, zq_t, zq_f, zq0, zq1, zw_id, zy_in])
      rw [zk_232_34]
      ((try simp only [zbd_conv]); simp (disch := first | assumption | omega | trivial) only [↓reduceIte, zbd_some, eq_self, Int.reduceEq, Int.reduceLT, Int.reduceLE, and_self, or_true, true_or, or_false, false_or, if_pos, if_neg, if_true, if_false, true_and, and_true, not_true_eq_false, not_false_eq_true, false_and, and_false, Option.bind_some, zq_t, zq_f, zq0, zq1, zw_id])
      rw [zk_232_69]
      ((try simp only [zbd_conv]); simp (disch := first | assumption | omega | trivial) only [↓reduceIte, zbd_some, eq_self, Int.reduceEq, Int.reduceLT, Int.reduceLE, and_self, or_true, true_or, or_false, false_or, if_pos, if_neg, if_true, if_false, true_and, and_true, not_true_eq_false, not_false_eq_true, false_and, and_false, Option.bind_some, zq_t, zq_f, zq0, zq1, zw_id, zy_in])
    · ((try simp only [zbd_conv]); simp (disch := first | assumption | omega | trivial) only [↓reduceIte, zbd_some, eq_self, Int.reduceEq, Int.reduceLT, Int.reduceLE, and_self, or_true, true_or, or_false, false_or, if_pos, if_neg, if_true, if_false, true_and, and_true, not_true_eq_false, not_false_eq_true, false_and, and_false, Option.bind_some, zq_t, zq_f, zq0, zq1, zw_id, zy_in])
      rw [zk_232_34]
      ((try simp only [zbd_conv]); simp (disch := first | assumption | omega | trivial) only [↓reduceIte, zbd_some, eq_self, Int.reduceEq, Int.reduceLT, Int.reduceLE, and_self, or_true, true_or, or_false, false_or, if_pos, if_neg, if_true, if_false, true_and, and_true, not_true_eq_false, not_false_eq_true, false_and, and_false, Option.bind_some, zq_t, zq_f, zq0, zq1, zw_id])
      rw [zk_232_69]
      ((try simp only [zbd_conv]); simp (disch := first | assumption | omega | trivial) only [↓reduceIte, zbd_some, eq_self, Int.reduceEq, Int.reduceLT, Int.reduceLE, and_self, or_true, true_or, or_false, false_or, if_pos, if_neg, if_true, if_false, true_and, and_true, not_true_eq_false, not_false_eq_true, false_and, and_false, Option.bind_some, zq_t, zq_f, zq0, zq1, zw_id, zy_in])
    · ((try simp only [zbd_conv]); simp (disch := first | assumption | omega | trivial) only [↓reduceIte, zbd_some, eq_self, Int.reduceEq, Int.reduceLT, Int.reduceLE, and_self, or_true, true_or, or_false, false_or, if_pos, if_neg, if_true, if_false, true_and, and_true, not_true_eq_false, not_false_eq_true, false_and, and_false, Option.bind_some, zq_t, zq_f, zq0, zq1, zw_id, zy_in])
      rw [zk_232_34]
      ((try simp only [zbd_conv]); simp (disch := first | assumption | omega | trivial) only [↓reduceIte, zbd_some, eq_self, Int.reduceEq, Int.reduceLT, Int.reduceLE, and_self, or_true, true_or, or_false, false_or, if_pos, if_neg, if_true, if_false, true_and, and_true, not_true_eq_false, not_false_eq_true, false_and, and_false, Option.bind_some, zq_t, zq_f, zq0, zq1, zw_id])
      rw [zk_232_69]
      ((try simp only [zbd_conv]); simp (disch := first | assumption | omega | trivial) only [↓reduceIte, zbd_some, eq_self, Int.reduceEq, Int.reduceLT, Int.reduceLE, and_self, or_true, true_or, or_false, false_or, if_pos, if_neg, if_true, if_false, true_and, and_true, not_true_eq_false, not_false_eq_true, false_and, and_false, Option.bind_some, zq_t, zq_f, zq0, zq1, zw_id, zy_in])
    · ((try simp only [zbd_conv]); simp (disch := first | assumption | omega | trivial) only [↓reduceIte, zbd_some, eq_self, Int.reduceEq, Int.reduceLT, Int.reduceLE, and_self, or_true, true_or, or_false, false_or, if_pos, if_neg, if_true, if_false, true_and, and_true, not_true_eq_false, not_false_eq_true, false_and, and_false, Option.bind_some, zq_t, zq_f, zq0, zq1, zw_id, zy_in])
      rw [zk_232_34]
      ((try simp only [zbd_conv]); simp (disch := first | assumption | omega | trivial) only [↓reduceIte, zbd_some, eq_self, Int.reduceEq, Int.reduceLT, Int.reduceLE, and_self, or_true, true_or, or_false, false_or, if_pos, if_neg, if_true, if_false, true_and, and_true, not_true_eq_false, not_false_eq_true, false_and, and_false, Option.bind_some, zq_t, zq_f, zq0, zq1, zw_id])
      rw [zk_232_69]
      ((try simp only [zbd_conv]); simp (disch := first | assumption | omega | trivial) only [↓reduceIte, zbd_some, eq_self, Int.reduceEq, Int.reduceLT, Int.reduceLE, and_self, or_true, true_or, or_false, false_or, if_pos, if_neg, if_true, if_false, true_and, and_true, not_true_eq_false, not_false_eq_true, false_and, and_false, Option.bind_some, zq_t, zq_f, zq0, zq1, zw_id, zy_in])
  · ((try simp only [zbd_conv]); simp (disch := first | assumption | omega | trivial) only [↓reduceIte, zbd_some, eq_self, Int.reduceEq, Int.reduceLT, Int.reduceLE, and_self, or_true, true_or, or_false, false_or, if_pos, if_neg, if_true, if_false, true_and, and_true, not_true_eq_false, not_false_eq_true, false_and, and_false, Option.bind_some, zq_t, zq_f, zq0, zq1, zw_id, zy_in])
theorem zy_setyes (hm : zs_mo S R M) (ha : zf_allow x v) (hs : zG (d + 6) 205 [.inr (.inr M)] (S, zi_up I M (6 + x) v, R, T) = some (0, (S, K, R, T))) : zG (d + 7) 232 [.inr (.inr M), .inl x, .inl v] (S, I, R, T) = some (I M (6 + x), (S, K, R, T)) := by
  rw [zm_232]
  unfold zf_allow at ha
  rcases (show x = 0 ∨ x = 1 ∨ x = 2 ∨ x = 3 by omega) with e | e | e | e <;> subst e
  · ((try simp only [zbd_conv]); simp (disch := first | assumption | omega | trivial) only [↓reduceIte, zbd_some, eq_self, Int.reduceEq, Int.reduceLT, Int.reduceLE, and_self, or_true, true_or, or_false, false_or, if_pos, if_neg, if_true, if_false, true_and, and_true, not_true_eq_false, not_false_eq_true, false_and, and_false, Option.bind_some, zq_t, zq_f, zq0, zq1, zw_id, zy_in])
    rw [zk_232_34]
    ((try simp only [zbd_conv]); simp (disch := first | assumption | omega | trivial) only [↓reduceIte, zbd_some, eq_self, Int.reduceEq, Int.reduceLT, Int.reduceLE, and_self, or_true, true_or, or_false, false_or, if_pos, if_neg, if_true, if_false, true_and, and_true, not_true_eq_false, not_false_eq_true, false_and, and_false, Option.bind_some, zq_t, zq_f, zq0, zq1, zw_id])
    rw [zk_232_69]
    ((try simp only [zbd_conv]); simp (disch := first | assumption | omega | trivial) only [↓reduceIte, zbd_some, eq_self, Int.reduceEq, Int.reduceLT, Int.reduceLE, and_self, or_true, true_or, or_false, false_or, if_pos, if_neg, if_true, if_false, true_and, and_true, not_true_eq_false, not_false_eq_true, false_and, and_false, Option.bind_some, zq_t, zq_f, zq0, zq1, zw_id, zy_in, zmo_1 hm, zy_setting hm, zy_sets hm, hs])
  · ((try simp only [zbd_conv]); simp (disch := first | assumption | omega | trivial) only [↓reduceIte, zbd_some, eq_self, Int.reduceEq, Int.reduceLT, Int.reduceLE, and_self, or_true, true_or, or_false, false_or, if_pos, if_neg, if_true, if_false, true_and, and_true, not_true_eq_false, not_false_eq_true, false_and, and_false, Option.bind_some, zq_t, zq_f, zq0, zq1, zw_id, zy_in])
    rw [zk_232_34]
    ((try simp only [zbd_conv]); simp (disch := first | assumption | omega | trivial) only [↓reduceIte, zbd_some, eq_self, Int.reduceEq, Int.reduceLT, Int.reduceLE, and_self, or_true, true_or, or_false, false_or, if_pos, if_neg, if_true, if_false, true_and, and_true, not_true_eq_false, not_false_eq_true, false_and, and_false, Option.bind_some, zq_t, zq_f, zq0, zq1, zw_id])
    rw [zk_232_69]
    ((try simp only [zbd_conv]); simp (disch := first | assumption | omega | trivial) only [↓reduceIte, zbd_some, eq_self, Int.reduceEq, Int.reduceLT, Int.reduceLE, and_self, or_true, true_or, or_false, false_or, if_pos, if_neg, if_true, if_false, true_and, and_true, not_true_eq_false, not_false_eq_true, false_and, and_false, Option.bind_some, zq_t, zq_f, zq0, zq1, zw_id, zy_in, zmo_1 hm, zy_setting hm, zy_sets hm, hs])
  · ((try simp only [zbd_conv]); simp (disch := first | assumption | omega | trivial) only [↓reduceIte, zbd_some, eq_self, Int.reduceEq, Int.reduceLT, Int.reduceLE, and_self, or_true, true_or, or_false, false_or, if_pos, if_neg, if_true, if_false, true_and, and_true, not_true_eq_false, not_false_eq_true, false_and, and_false, Option.bind_some, zq_t, zq_f, zq0, zq1, zw_id, zy_in])
    rw [zk_232_34]
    ((try simp only [zbd_conv]); simp (disch := first | assumption | omega | trivial) only [↓reduceIte, zbd_some, eq_self, Int.reduceEq, Int.reduceLT, Int.reduceLE, and_self, or_true, true_or, or_false, false_or, if_pos, if_neg, if_true, if_false, true_and, and_true, not_true_eq_false, not_false_eq_true, false_and, and_false, Option.bind_some, zq_t, zq_f, zq0, zq1, zw_id])
    rw [zk_232_69]
    ((try simp only [zbd_conv]); simp (disch := first | assumption | omega | trivial) only [↓reduceIte, zbd_some, eq_self, Int.reduceEq, Int.reduceLT, Int.reduceLE, and_self, or_true, true_or, or_false, false_or, if_pos, if_neg, if_true, if_false, true_and, and_true, not_true_eq_false, not_false_eq_true, false_and, and_false, Option.bind_some, zq_t, zq_f, zq0, zq1, zw_id, zy_in, zmo_1 hm, zy_setting hm, zy_sets hm, hs])
  · ((try simp only [zbd_conv]); simp (disch := first | assumption | omega | trivial) only [↓reduceIte, zbd_some, eq_self, Int.reduceEq, Int.reduceLT, Int.reduceLE, and_self, or_true, true_or, or_false, false_or, if_pos, if_neg, if_true, if_false, true_and, and_true, not_true_eq_false, not_false_eq_true, false_and, and_false, Option.bind_some, zq_t, zq_f, zq0, zq1, zw_id, zy_in])
    rw [zk_232_34]
    ((try simp only [zbd_conv]); simp (disch := first | assumption | omega | trivial) only [↓reduceIte, zbd_some, eq_self, Int.reduceEq, Int.reduceLT, Int.reduceLE, and_self, or_true, true_or, or_false, false_or, if_pos, if_neg, if_true, if_false, true_and, and_true, not_true_eq_false, not_false_eq_true, false_and, and_false, Option.bind_some, zq_t, zq_f, zq0, zq1, zw_id])
    rw [zk_232_69]
    ((try simp only [zbd_conv]); simp (disch := first | assumption | omega | trivial) only [↓reduceIte, zbd_some, eq_self, Int.reduceEq, Int.reduceLT, Int.reduceLE, and_self, or_true, true_or, or_false, false_or, if_pos, if_neg, if_true, if_false, true_and, and_true, not_true_eq_false, not_false_eq_true, false_and, and_false, Option.bind_some, zq_t, zq_f, zq0, zq1, zw_id, zy_in, zmo_1 hm, zy_setting hm, zy_sets hm, hs])
theorem zz_set (h : zR4 S I R X M) : zz_ok (d + 11) S I R T X M 131 232 [.inl x, .inl v] := by
  obtain ⟨hc, hm, hap, hall⟩ := id h
  have oo : zo_ly I I M := zo_ly_refl
  by_cases ha : zf_allow x v
  · have hx : 0 ≤ x ∧ x ≤ 3 := by unfold zf_allow at ha; omega
    obtain ⟨⟨hrep, hwf⟩, hst, hmo, hse, -, -, hnum, -⟩ := zR4_facts h
    obtain ⟨f, hf⟩ : ∃ f, R X 6 = f := ⟨_, rfl⟩
    rw [hf] at hrep
    have lo := zs_fa_lo (zcl_fa6 hc hf)
    have s1 := (zcl_se hc).2
    obtain ⟨J0, hJ0⟩ : ∃ J0, J0 = zi_up I (X + 4) x v := ⟨_, rfl⟩
    have j0 : ∀ q, q ≠ X + 4 → J0 q = I q := fun q hq => by rw [hJ0, zu_off hq]
    have j4 : ∀ j, 0 ≤ j → j < 4 → J0 (X + 4) j = zi_up I M (6 + x) v M (6 + j) := fun j j1 j2 => by
      rw [hJ0]
      by_cases e : j = x
      · rw [zu_eq ⟨rfl, e⟩, zu_eq ⟨rfl, by omega⟩]
      · rw [zu_ne (by omega), zu_ne (by omega)]
        rcases (show j = 0 ∨ j = 1 ∨ j = 2 ∨ j = 3 by omega) with e | e | e | e <;> subst e
        · exact hst.1
        · exact hst.2.1
        · exact hst.2.2.1
        · exact hst.2.2.2
    have mo : zr_mo (zi_up I M (6 + x) v) M := by
      unfold zf_allow at ha
      unfold zr_mo at *
      rcases (show x = 0 ∨ x = 1 ∨ x = 2 ∨ x = 3 by omega) with e | e | e | e <;> subst e
      · rw [zu_eq (by omega), zu_ne (by omega), zu_ne (by omega), zu_ne (by omega)]; omega
      · rw [zu_ne (by omega), zu_eq (by omega), zu_ne (by omega), zu_ne (by omega)]; omega
      · rw [zu_ne (by omega), zu_ne (by omega), zu_eq (by omega), zu_ne (by omega)]; omega
      · rw [zu_ne (by omega), zu_ne (by omega), zu_ne (by omega), zu_eq (by omega)]; omega
    have se0 : zr_se J0 (X + 4) := by
      unfold zr_se
      rw [j4 0 (by omega) (by omega), j4 1 (by omega) (by omega), j4 2 (by omega) (by omega), j4 3 (by omega) (by omega)]
      exact mo
    obtain ⟨J, l1, l2⟩ := zx_layAll (d := d + 3) (T := T) hc hf (zv_rep_congr hrep (fun q q1 q2 => j0 q (by omega))) hwf se0
    rw [j4 0 (by omega) (by omega), j4 1 (by omega) (by omega), j4 2 (by omega) (by omega), j4 3 (by omega) (by omega)] at l2
    have jq : ∀ q, X + 300 ≤ q → J q = I q := fun q q1 => by
      obtain ⟨v', c, -, d2, -⟩ := l2
      rw [d2 q (by omega) (by omega) (by omega), j0 q (by omega)]
    have kM : zi_up J M (6 + x) v M = zi_up I M (6 + x) v M := by
      funext j
      rw [zi_up_at, zi_up_at, jq M hap]
    have kq : ∀ q, X + 300 ≤ q → q ≠ M → zi_up J M (6 + x) v q = I q := fun q q1 q2 => by rw [zu_off q2, jq q q1]
    have rq : ∀ q, 1 ≤ q → zr_row (zi_up J M (6 + x) v) M q = zr_row I M q := fun q q1 => kq (M + q) (by omega) (by omega)
    have r0 : ∀ j, j ≠ 6 + x → zr_row (zi_up J M (6 + x) v) M 0 j = zr_row I M 0 j := fun j hj => by rw [zr_row0, zr_row0, kM, zu_ne (by omega)]
    obtain ⟨K, e1, e2, -, -⟩ := zz_settled (d := d + 4) (T := T) hc hf hm hap hwf (J0 := J0) (K0 := zi_up J M (6 + x) v) l2 (fun q q1 => zu_off (by omega)) (kq (M + 1) (by omega) (by omega)) (by unfold zr_mo at mo ⊢; rw [kM]; exact mo) (by rw [kM]; exact ⟨rfl, rfl, rfl, rfl⟩) ⟨j4 0 (by omega) (by omega), j4 1 (by omega) (by omega), j4 2 (by omega) (by omega), j4 3 (by omega) (by omega)⟩ (by rw [j0 X (by omega), kM, zu_ne (by omega)]; exact hnum.2)
      (zc_tap_A (zc_tap_I hall.2.2.2.2.1 (by rw [j0 (X + 1) (by omega)]) (j0 (X + 2) (by omega))) (r0 12 (by omega)) (rq 5 (by omega)))
      (zc_his_A (zc_his_I hall.2.2.2.2.2.1 (j0 _ (by omega)) (fun k k1 k2 q q1 q2 => by have := zs_fa_lo (zcl_fas hc ⟨k1, k2⟩); exact j0 q (by omega))) (r0 4 (by omega)) (r0 5 (by omega)) (rq 3 (by omega)) (rq 4 (by omega)))
      (zc_img_A (zc_img_I hall.2.2.2.2.2.2.1 (fun q q1 q2 => j0 q (by omega))) (rq 12 (by omega)) (rq 13 (by omega)))
      (zc_shs_A (zc_shs_I hall.2.2.2.2.2.2.2 (fun q q1 q2 => j0 q (by omega))) (rq 14 (by omega)) (rq 15 (by omega)) (rq 16 (by omega)))
    have hv : I (X + 4) x = I M (6 + x) := by
      rcases (show x = 0 ∨ x = 1 ∨ x = 2 ∨ x = 3 by omega) with e | e | e | e <;> subst e
      · exact hst.1
      · exact hst.2.1
      · exact hst.2.2.1
      · exact hst.2.2.2
    have ch := fun d => zx_change (d := d) (I := I) (R := R) (T := T) (v := v) (zcl_se hc) hx
    simp only [← hJ0, hv] at ch
    refine ⟨I M (6 + x), J, R, K, ?_, ?_, e2⟩
    · rw [zm_131]
      ((try simp only [zbd_conv]); simp (disch := first | assumption | omega | trivial) only [↓reduceIte, zbd_some, eq_self, Int.reduceEq, Int.reduceLT, Int.reduceLE, and_self, or_true, true_or, or_false, false_or, if_pos, if_neg, if_true, if_false, true_and, and_true, not_true_eq_false, not_false_eq_true, false_and, and_false, Option.bind_some, zq_t, zq_f, zq0, zq1, zw_id, zx_allows, zcl_x1 hc, zcl_c1 hc, s1, ch, l1])
    · have := zy_setyes (d := d + 4) (I := J) (T := T) hm ha e1
      rw [jq M hap] at this
      exact this
  · refine zz_read (v := -1) h ?_ (zy_setno (d := d + 8) hm ha) oo
    rw [zm_131]
    ((try simp only [zbd_conv]); simp (disch := first | assumption | omega | trivial) only [↓reduceIte, zbd_some, eq_self, Int.reduceEq, Int.reduceLT, Int.reduceLE, and_self, or_true, true_or, or_false, false_or, if_pos, if_neg, if_true, if_false, true_and, and_true, not_true_eq_false, not_false_eq_true, false_and, and_false, Option.bind_some, zq_t, zq_f, zq0, zq1, zw_id, zx_allows])
end ZSt
