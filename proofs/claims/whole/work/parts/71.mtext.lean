/-! the reference reads a text -/
section ZMt
variable {d : Nat} {S : zS} {I J K R : zI} {T : Int × Nat} {M n v l f c k x y z r i p m a N b o : Int} {P Q D s B : Int → Int}
def zt_eq (D P : Int → Int) : Prop := ∀ j, 0 ≤ j → j < 520 → D j = P j
theorem zt_ag_eq (h : zt_eq D P) (hn : P 493 ≤ 8) : zt_ag D x y ↔ zt_ag P x y := by
  have e := h 493 (by omega) (by omega)
  constructor
  · rintro ⟨k, ⟨k1, k2⟩, q⟩
    rw [e] at k2
    rw [h _ (by omega) (by omega), h _ (by omega) (by omega)] at q
    exact ⟨k, ⟨k1, k2⟩, q⟩
  · rintro ⟨k, ⟨k1, k2⟩, q⟩
    exact ⟨k, ⟨k1, by rw [e]; exact k2⟩, by rw [h _ (by omega) (by omega), h _ (by omega) (by omega)]; exact q⟩
theorem zt_pos_eq (h : zt_eq D P) (hn : 0 ≤ P 493 ∧ P 493 ≤ 8) : zt_pos D x y = zt_pos P x y := by
  have e := h 493 (by omega) (by omega)
  have a := zt_pos_ok (P := D) (x := x) (y := y) (by rw [e]; exact hn.1)
  rw [e] at a
  exact zf_pos_uniq a (zt_pos_ok hn.1) (fun j j1 j2 => ⟨h (494 + 3 * j) (by omega) (by omega), h (495 + 3 * j) (by omega) (by omega)⟩)
theorem zt_up_eq2 (h : zt_eq D P) : zt_eq (zt_up D k v) (zt_up P k v) := fun j j1 j2 => by
  rw [zt_up_at, zt_up_at]
  by_cases g : j = k
  · rw [if_pos g, if_pos g]
  · rw [if_neg g, if_neg g]; exact h j j1 j2
theorem zt_fins_eq (h : zt_eq D P) (hk : 0 ≤ k ∧ k ≤ n ∧ n < 8) : zt_eq (zt_fins D n k x y v) (zt_fins P n k x y v) := fun j j1 j2 => by
  rw [zt_fins_at, zt_fins_at]
  by_cases g1 : j = 493
  · rw [if_pos g1, if_pos g1]
  · rw [if_neg g1, if_neg g1]
    by_cases g2 : j = 494 + 3 * k
    · rw [if_pos g2, if_pos g2]
    · rw [if_neg g2, if_neg g2]
      by_cases g3 : j = 495 + 3 * k
      · rw [if_pos g3, if_pos g3]
      · rw [if_neg g3, if_neg g3]
        by_cases g4 : j = 496 + 3 * k
        · rw [if_pos g4, if_pos g4]
        · rw [if_neg g4, if_neg g4]
          by_cases g5 : 497 + 3 * k ≤ j ∧ j < 497 + 3 * n
          · rw [if_pos g5, if_pos g5]; exact h _ (by omega) (by omega)
          · rw [if_neg g5, if_neg g5]; exact h j j1 j2
def zv_tm (I : zI) (M : Int) (q : zT4) : Prop := zt_eq (I (M + 2)) q.1 ∧ I M 15 = q.2.2.1 ∧ I M 16 = q.2.2.2 ∧ ∀ j, 0 ≤ j → j < q.2.2.1 → I (M + 6) j = q.2.1 j
def zo_tm (I J : zI) (M : Int) : Prop := (∀ x, x ≠ M → x ≠ M + 2 → x ≠ M + 6 → J x = I x) ∧ ∀ j, j ≠ 15 → j ≠ 16 → J M j = I M j
theorem zo_tm_refl : zo_tm I I M := ⟨fun _ _ _ _ => rfl, fun _ _ _ => rfl⟩
theorem zy_fbyte (hm : zs_mo S R M) {q : zT4} (hq : zw_text q) (ht : zv_tm I M q) : ∃ J, zG (d + 5) 171 [.inr (.inr M), .inl c] (S, I, R, T) = some ((zt_byte c q).1, (S, J, R, T)) ∧ zv_tm J M (zt_byte c q).2 ∧ zo_tm I J M := by
  have h1 := zmo_1 hm
  have M0 := hm.1.1
  obtain ⟨P, B, o, n⟩ := q
  obtain ⟨hw, hz, hc, ho, hb, hn⟩ := id hq
  dsimp only at hw hz hc ho hb hn
  obtain ⟨w1, w2, w3, w4, w5, w6, w7⟩ := id hw
  obtain ⟨t0, t1, t2, t3⟩ := id ht
  dsimp only at t0 t1 t2 t3
  have d0 : I (M + 2) 0 = P 0 := t0 0 (by omega) (by omega)
  have ln := w2 (P 0 - 1) (by omega) (by omega)
  rw [show 1 + (P 0 - 1) = P 0 by omega] at ln
  have dl : I (M + 2) (1 + (P 0 - 1)) = P (P 0) := by rw [t0 _ (by omega) (by omega), show 1 + (P 0 - 1) = P 0 by omega]
  rw [zm_171]
  unfold zt_byte
  dsimp only
  by_cases hs : zf_sign c
  · rw [zt_if_t hs]
    by_cases g : P (P 0) = 40
    · rw [if_pos g]
      refine ⟨I, ?_, ht, zo_tm_refl⟩
      have fs : zG (d + 4) 169 [.inr (.inr M), .inl c] (S, I, R, T) = some (2, (S, I, R, T)) := by
        rw [zm_169]
        ((try simp only [zbd_conv]); simp (disch := first | assumption | omega | trivial) only [↓reduceIte, zbd_some, eq_self, Int.reduceEq, Int.reduceLT, Int.reduceLE, and_self, or_true, true_or, or_false, false_or, if_pos, if_neg, if_true, if_false, true_and, and_true, not_true_eq_false, not_false_eq_true, false_and, and_false, Option.bind_some, zq_t, zq_f, zq0, zq1, zw_id, h1, zmo_r1 hm, zmo_s2 hm, d0, dl])
      ((try simp only [zbd_conv]); simp (disch := first | assumption | omega | trivial) only [↓reduceIte, zbd_some, eq_self, Int.reduceEq, Int.reduceLT, Int.reduceLE, and_self, or_true, true_or, or_false, false_or, if_pos, if_neg, if_true, if_false, true_and, and_true, not_true_eq_false, not_false_eq_true, false_and, and_false, Option.bind_some, zq_t, zq_f, zq0, zq1, zw_id, zy_isSign, h1, fs])
    · rw [if_neg g]
      have du : zi_up I (M + 2) (13 + 40 * (P 0 - 1) + P (P 0)) c (M + 2) (1 + (P 0 - 1)) = P (P 0) := by rw [zu_ne (by omega), dl]
      refine ⟨zi_up (zi_up I (M + 2) (13 + 40 * (P 0 - 1) + P (P 0)) c) (M + 2) (1 + (P 0 - 1)) (P (P 0) + 1), ?_, ⟨?_, ?_, ?_, fun j j1 j2 => ?_⟩, fun x x1 x2 x3 => ?_, fun j j1 j2 => ?_⟩
      · have fs : zG (d + 4) 169 [.inr (.inr M), .inl c] (S, I, R, T) = some (0, (S, zi_up (zi_up I (M + 2) (13 + 40 * (P 0 - 1) + P (P 0)) c) (M + 2) (1 + (P 0 - 1)) (P (P 0) + 1), R, T)) := by
          rw [zm_169]
          ((try simp only [zbd_conv]); simp (disch := first | assumption | omega | trivial) only [↓reduceIte, zbd_some, eq_self, Int.reduceEq, Int.reduceLT, Int.reduceLE, and_self, or_true, true_or, or_false, false_or, if_pos, if_neg, if_true, if_false, true_and, and_true, not_true_eq_false, not_false_eq_true, false_and, and_false, Option.bind_some, zq_t, zq_f, zq0, zq1, zw_id, h1, zmo_r1 hm, zmo_s2 hm, d0, dl, zwr, du])
        ((try simp only [zbd_conv]); simp (disch := first | assumption | omega | trivial) only [↓reduceIte, zbd_some, eq_self, Int.reduceEq, Int.reduceLT, Int.reduceLE, and_self, or_true, true_or, or_false, false_or, if_pos, if_neg, if_true, if_false, true_and, and_true, not_true_eq_false, not_false_eq_true, false_and, and_false, Option.bind_some, zq_t, zq_f, zq0, zq1, zw_id, zy_isSign, h1, fs])
      · dsimp only
        rw [zu_row, zu_row, show 1 + (P 0 - 1) = P 0 by omega]
        exact zt_up_eq2 (zt_up_eq2 t0)
      · rw [zu_off (by omega), zu_off (by omega)]; exact t1
      · rw [zu_off (by omega), zu_off (by omega)]; exact t2
      · rw [zu_off (by omega), zu_off (by omega)]; exact t3 j j1 j2
      · rw [zu_off x2, zu_off x2]
      · rw [zu_off (by omega), zu_off (by omega)]
  · rw [zt_if_f hs]
    by_cases c10 : c = 10
    · rw [if_pos c10]
      by_cases g : P 0 = 12
      · rw [if_pos g]
        refine ⟨I, ?_, ht, zo_tm_refl⟩
        ((try simp only [zbd_conv]); simp (disch := first | assumption | omega | trivial) only [↓reduceIte, zbd_some, eq_self, Int.reduceEq, Int.reduceLT, Int.reduceLE, and_self, or_true, true_or, or_false, false_or, if_pos, if_neg, if_true, if_false, true_and, and_true, not_true_eq_false, not_false_eq_true, false_and, and_false, Option.bind_some, zq_t, zq_f, zq0, zq1, zw_id, zy_isSign, h1, zmo_r1 hm, zmo_s2 hm, d0])
      · rw [if_neg g]
        refine ⟨zi_up I (M + 2) 0 (P 0 + 1), ?_, ⟨?_, ?_, ?_, fun j j1 j2 => ?_⟩, fun x x1 x2 x3 => ?_, fun j j1 j2 => ?_⟩
        · ((try simp only [zbd_conv]); simp (disch := first | assumption | omega | trivial) only [↓reduceIte, zbd_some, eq_self, Int.reduceEq, Int.reduceLT, Int.reduceLE, and_self, or_true, true_or, or_false, false_or, if_pos, if_neg, if_true, if_false, true_and, and_true, not_true_eq_false, not_false_eq_true, false_and, and_false, Option.bind_some, zq_t, zq_f, zq0, zq1, zw_id, zy_isSign, h1, zmo_r1 hm, zmo_s2 hm, d0, zwr])
        · dsimp only
          rw [zu_row]
          exact zt_up_eq2 t0
        · rw [zu_off (by omega)]; exact t1
        · rw [zu_off (by omega)]; exact t2
        · rw [zu_off (by omega)]; exact t3 j j1 j2
        · rw [zu_off x2]
        · rw [zu_off (by omega)]
    · rw [if_neg c10]
      by_cases c91 : c = 91
      · rw [if_pos c91]
        by_cases g : n = 8
        · rw [if_pos g]
          refine ⟨I, ?_, ht, zo_tm_refl⟩
          ((try simp only [zbd_conv]); simp (disch := first | assumption | omega | trivial) only [↓reduceIte, zbd_some, eq_self, Int.reduceEq, Int.reduceLT, Int.reduceLE, and_self, or_true, true_or, or_false, false_or, if_pos, if_neg, if_true, if_false, true_and, and_true, not_true_eq_false, not_false_eq_true, false_and, and_false, Option.bind_some, zq_t, zq_f, zq0, zq1, zw_id, zy_isSign, h1, t2])
        · rw [if_neg g]
          have u1 : zi_up I (M + 6) o (P 0 - 1) M 15 = o := by rw [zu_off (by omega), t1]
          have u2 : zi_up (zi_up I (M + 6) o (P 0 - 1)) M 15 (o + 1) M 16 = n := by rw [zu_ne (by omega), zu_off (by omega), t2]
          refine ⟨zi_up (zi_up (zi_up I (M + 6) o (P 0 - 1)) M 15 (o + 1)) M 16 (n + 1), ?_, ⟨?_, ?_, ?_, fun j j1 j2 => ?_⟩, fun x x1 x2 x3 => ?_, fun j j1 j2 => ?_⟩
          · ((try simp only [zbd_conv]); simp (disch := first | assumption | omega | trivial) only [↓reduceIte, zbd_some, eq_self, Int.reduceEq, Int.reduceLT, Int.reduceLE, and_self, or_true, true_or, or_false, false_or, if_pos, if_neg, if_true, if_false, true_and, and_true, not_true_eq_false, not_false_eq_true, false_and, and_false, Option.bind_some, zq_t, zq_f, zq0, zq1, zw_id, zy_isSign, h1, t2, t1, zmo_r1 hm, zmo_s2 hm, zmo_r14 hm, zmo_s6 hm, d0, zwr, u1, u2])
          · dsimp only
            rw [zu_off (by omega), zu_off (by omega), zu_off (by omega)]; exact t0
          · rw [zu_ne (by omega), zu_eq ⟨rfl, rfl⟩]
          · rw [zu_eq ⟨rfl, rfl⟩]
          · dsimp only at j2 ⊢
            rw [zu_off (by omega), zu_off (by omega)]
            by_cases e : j = o
            · rw [e, zu_eq ⟨rfl, rfl⟩, zt_up_eq rfl]
            · rw [zu_ne (by omega), zt_up_ne e]; exact t3 j j1 (by omega)
          · rw [zu_off x1, zu_off x1, zu_off x3]
          · rw [zu_ne (by omega), zu_ne (by omega), zu_off (by omega)]
      · rw [if_neg c91]
        by_cases c93 : c = 93
        · rw [if_pos c93]
          by_cases g : o = 0
          · rw [if_pos g]
            refine ⟨I, ?_, ht, zo_tm_refl⟩
            have fe : zG (d + 4) 170 [.inr (.inr M)] (S, I, R, T) = some (5, (S, I, R, T)) := by
              rw [zm_170]
              ((try simp only [zbd_conv]); simp (disch := first | assumption | omega | trivial) only [↓reduceIte, zbd_some, eq_self, Int.reduceEq, Int.reduceLT, Int.reduceLE, and_self, or_true, true_or, or_false, false_or, if_pos, if_neg, if_true, if_false, true_and, and_true, not_true_eq_false, not_false_eq_true, false_and, and_false, Option.bind_some, zq_t, zq_f, zq0, zq1, zw_id, h1, t1])
            ((try simp only [zbd_conv]); simp (disch := first | assumption | omega | trivial) only [↓reduceIte, zbd_some, eq_self, Int.reduceEq, Int.reduceLT, Int.reduceLE, and_self, or_true, true_or, or_false, false_or, if_pos, if_neg, if_true, if_false, true_and, and_true, not_true_eq_false, not_false_eq_true, false_and, and_false, Option.bind_some, zq_t, zq_f, zq0, zq1, zw_id, zy_isSign, h1, fe])
          · rw [if_neg g]
            have bo := t3 (o - 1) (by omega) (by omega)
            have b1 := hb (o - 1) (by omega) (by omega)
            obtain ⟨x, hx⟩ : ∃ x, B (o - 1) = x := ⟨_, rfl⟩
            rw [hx] at bo b1 ⊢
            by_cases gx : x < P 0 - 1
            · have ag := fun d => zy_against (d := d) (R := R) (T := T) (p := M + 2) (I := I) (S := S) ⟨by omega, zmo_s2 hm⟩ (by rw [t0 _ (by omega) (by omega)]; exact w3.2) (fun k k1 k2 => by
                rw [t0 493 (by omega) (by omega)] at k2
                rw [t0 (494 + 3 * k) (by omega) (by omega), t0 (495 + 3 * k) (by omega) (by omega)]
                exact (w4 k k1 k2).1.2.1) gx
              by_cases ga : zt_ag P x (P 0 - 1)
              · have ga' := (zt_ag_eq t0 w3.2).mpr ga
                rw [zt_if_f (fun q => q.2 ga)]
                refine ⟨I, ?_, ht, zo_tm_refl⟩
                have fe : zG (d + 4) 170 [.inr (.inr M)] (S, I, R, T) = some (5, (S, I, R, T)) := by
                  rw [zm_170]
                  ((try simp only [zbd_conv]); simp (disch := first | assumption | omega | trivial) only [↓reduceIte, zbd_some, eq_self, Int.reduceEq, Int.reduceLT, Int.reduceLE, and_self, or_true, true_or, or_false, false_or, if_pos, if_neg, if_true, if_false, true_and, and_true, not_true_eq_false, not_false_eq_true, false_and, and_false, Option.bind_some, zq_t, zq_f, zq0, zq1, zw_id, h1, t1, zmo_r1 hm, zmo_s2 hm, zmo_r14 hm, zmo_s6 hm, bo, d0, ag, ga'])
                ((try simp only [zbd_conv]); simp (disch := first | assumption | omega | trivial) only [↓reduceIte, zbd_some, eq_self, Int.reduceEq, Int.reduceLT, Int.reduceLE, and_self, or_true, true_or, or_false, false_or, if_pos, if_neg, if_true, if_false, true_and, and_true, not_true_eq_false, not_false_eq_true, false_and, and_false, Option.bind_some, zq_t, zq_f, zq0, zq1, zw_id, zy_isSign, h1, fe])
              · have ga' : ¬ zt_ag (I (M + 2)) x (P 0 - 1) := fun q => ga ((zt_ag_eq t0 w3.2).mp q)
                rw [zt_if_t ⟨gx, ga⟩]
                have e493 := t0 493 (by omega) (by omega)
                have cm := fun d => zy_comes (d := d) (R := R) (T := T) (p := M + 2) (I := I) (S := S) (x := x) (y := P 0 - 1) (v := 0) ⟨by omega, zmo_s2 hm⟩ (by rw [e493]; omega)
                have ps := zt_pos_eq (x := x) (y := P 0 - 1) t0 w3
                simp only [ps, e493] at cm
                have pb := (zt_pos_b (P := P) (x := x) (y := P 0 - 1) w3.1).1
                obtain ⟨W, hW⟩ : ∃ W, W = zt_row I (M + 2) (zt_fins (I (M + 2)) (P 493) (zt_pos P x (P 0 - 1)) x (P 0 - 1) 0) := ⟨_, rfl⟩
                simp only [← hW] at cm
                have wM : W M 15 = o := by rw [hW, zt_row_off (by omega), t1]
                refine ⟨zi_up W M 15 (o - 1), ?_, ⟨?_, ?_, ?_, fun j j1 j2 => ?_⟩, fun z x1 x2 x3 => ?_, fun j j1 j2 => ?_⟩
                · have fe : zG (d + 4) 170 [.inr (.inr M)] (S, I, R, T) = some (0, (S, zi_up W M 15 (o - 1), R, T)) := by
                    rw [zm_170]
                    ((try simp only [zbd_conv]); simp (disch := first | assumption | omega | trivial) only [↓reduceIte, zbd_some, eq_self, Int.reduceEq, Int.reduceLT, Int.reduceLE, and_self, or_true, true_or, or_false, false_or, if_pos, if_neg, if_true, if_false, true_and, and_true, not_true_eq_false, not_false_eq_true, false_and, and_false, Option.bind_some, zq_t, zq_f, zq0, zq1, zw_id, h1, t1, zmo_r1 hm, zmo_s2 hm, zmo_r14 hm, zmo_s6 hm, bo, d0, ag, ga', cm, wM, zwr])
                  ((try simp only [zbd_conv]); simp (disch := first | assumption | omega | trivial) only [↓reduceIte, zbd_some, eq_self, Int.reduceEq, Int.reduceLT, Int.reduceLE, and_self, or_true, true_or, or_false, false_or, if_pos, if_neg, if_true, if_false, true_and, and_true, not_true_eq_false, not_false_eq_true, false_and, and_false, Option.bind_some, zq_t, zq_f, zq0, zq1, zw_id, zy_isSign, h1, fe])
                · dsimp only
                  rw [zu_off (by omega), hW, zt_row_eq]
                  exact zt_fins_eq t0 (by omega)
                · rw [zu_eq ⟨rfl, rfl⟩]
                · rw [zu_ne (by omega), hW, zt_row_off (by omega)]; exact t2
                · dsimp only at j2 ⊢
                  rw [zu_off (by omega), hW, zt_row_off (by omega)]; exact t3 j j1 (by omega)
                · rw [zu_off x1, hW, zt_row_off x2]
                · rw [zu_ne (by omega), hW, zt_row_off (by omega)]
            · rw [zt_if_f (fun q => gx q.1)]
              refine ⟨I, ?_, ht, zo_tm_refl⟩
              have fe : zG (d + 4) 170 [.inr (.inr M)] (S, I, R, T) = some (5, (S, I, R, T)) := by
                rw [zm_170]
                ((try simp only [zbd_conv]); simp (disch := first | assumption | omega | trivial) only [↓reduceIte, zbd_some, eq_self, Int.reduceEq, Int.reduceLT, Int.reduceLE, and_self, or_true, true_or, or_false, false_or, if_pos, if_neg, if_true, if_false, true_and, and_true, not_true_eq_false, not_false_eq_true, false_and, and_false, Option.bind_some, zq_t, zq_f, zq0, zq1, zw_id, h1, t1, zmo_r1 hm, zmo_s2 hm, zmo_r14 hm, zmo_s6 hm, bo, d0])
              ((try simp only [zbd_conv]); simp (disch := first | assumption | omega | trivial) only [↓reduceIte, zbd_some, eq_self, Int.reduceEq, Int.reduceLT, Int.reduceLE, and_self, or_true, true_or, or_false, false_or, if_pos, if_neg, if_true, if_false, true_and, and_true, not_true_eq_false, not_false_eq_true, false_and, and_false, Option.bind_some, zq_t, zq_f, zq0, zq1, zw_id, zy_isSign, h1, fe])
        · rw [if_neg c93]
          refine ⟨I, ?_, ht, zo_tm_refl⟩
          ((try simp only [zbd_conv]); simp (disch := first | assumption | omega | trivial) only [↓reduceIte, zbd_some, eq_self, Int.reduceEq, Int.reduceLT, Int.reduceLE, and_self, or_true, true_or, or_false, false_or, if_pos, if_neg, if_true, if_false, true_and, and_true, not_true_eq_false, not_false_eq_true, false_and, and_false, Option.bind_some, zq_t, zq_f, zq0, zq1, zw_id, zy_isSign, h1])
end ZMt
