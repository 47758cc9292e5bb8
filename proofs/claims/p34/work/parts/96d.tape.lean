/-! the law: a text is told; the tape and what is read of it -/
section ZAf
variable {d : Nat} {S : zS} {I J J0 J1 J2 K R R' F : zI} {T : Int × Nat} {X n v l f g c k x y z r i j p w t m e a b N nd nu o u L : Int} {P P2 Q Q0 Q2 : Int → Int} {σ : zM} {q : zT4} {tp tp' : Int → Int}
/-- tape, and what lies outside, are others -/
theorem zA_T (h : zA S I R X P w t m e nd nu) (hq : ∀ q, X ≤ q → q < X + 272 → q ≠ X + 1 → q ≠ X + 2 → J q = I q) : zA S J R X P w t m e nd nu := by
  obtain ⟨hn, hcs, hhis⟩ := id h
  obtain ⟨hc, ⟨hrep, hwf⟩, hset, hlay⟩ := id hn
  have h0 := hwf.1
  have lo := zs_fa_lo (zcl_fa6 hc rfl)
  refine ⟨⟨hc, ⟨zv_rep_congr hrep (fun q q1 q2 => hq q (by omega) (by omega) (by omega) (by omega)), hwf⟩, ?_, fun l l1 l2 => zl_laid_mem (hlay l l1 l2) (by omega) (fun q q1 q2 => hq q (by omega) (by omega) (by omega) (by omega))⟩, hcs, zA_his_I hhis (hq _ (by omega) (by omega) (by omega) (by omega)) (fun k k1 k2 q q1 q2 => ?_)⟩
  · unfold zA_set at *
    rw [hq _ (by omega) (by omega) (by omega) (by omega)]
    exact hset
  · have := zs_fa_lo (zcl_fas hc ⟨k1, k2⟩)
    exact hq q (by omega) (by omega) (by omega) (by omega)
theorem zA_exT (h : zA_ex S I R X) (hq : ∀ q, X ≤ q → q < X + 272 → q ≠ X + 1 → q ≠ X + 2 → J q = I q) : zA_ex S J R X := by
  obtain ⟨P, w, t, m, e, nd, nu, h⟩ := h
  exact ⟨P, w, t, m, e, nd, nu, zA_T h hq⟩
theorem zA_exc (h : zA_ex S I R X) : zs_cl S R X := by
  obtain ⟨P, w, t, m, e, nd, nu, h⟩ := h
  exact h.1.1
/-- c bytes are on the tape, and are read to q without a fault -/
def zW (I : zI) (X c : Int) (q : zT4) : Prop := I (X + 1) 2 = c ∧ (0 ≤ c ∧ c ≤ 400) ∧ (∀ j : Nat, (j : Int) < c → zt_flt (I (X + 2)) j = 0) ∧ zt_iter (I (X + 2)) c.toNat = q
theorem zt_iter_congr : ∀ k : Nat, (∀ j : Nat, j < k → tp' j = tp j) → zt_iter tp' k = zt_iter tp k
  | 0, _ => rfl
  | k + 1, h => by
    show (zt_byte (tp' k) (zt_iter tp' k)).2 = (zt_byte (tp k) (zt_iter tp k)).2
    rw [zt_iter_congr k (fun j hj => h j (by omega)), h k (by omega)]
theorem zW_text (h : zW I X c q) : zw_text q := by
  rw [← h.2.2.2]
  exact zw_iter _
theorem zW_I (h : zW I X c q) (h1 : J (X + 1) = I (X + 1)) (h2 : J (X + 2) = I (X + 2)) : zW J X c q := by
  unfold zW at *
  rw [h1, h2]
  exact h
/-- what feed leaves -/
def zp_fd (I : zI) (X c b : Int) : zI := zi_up (zi_up I (X + 2) c b) (X + 1) 2 (c + 1)
theorem zp_fd_off {q : Int} (h1 : q ≠ X + 1) (h2 : q ≠ X + 2) : zp_fd I X c b q = I q := by
  unfold zp_fd
  rw [zu_off h1, zu_off h2]
theorem zW_feed (h : zW I X c q) (hc : c < 400) (hb : (zt_byte b q).1 = 0) : zW (zp_fd I X c b) X (c + 1) (zt_byte b q).2 := by
  obtain ⟨h1, h2, h3, h4⟩ := h
  have e2 : ∀ j : Nat, (j : Int) < c → zp_fd I X c b (X + 2) j = I (X + 2) j := fun j hj => by
    unfold zp_fd
    rw [zu_off (by omega), zu_ne (by omega)]
  have ec : zp_fd I X c b (X + 2) c = b := by
    unfold zp_fd
    rw [zu_off (by omega), zu_eq ⟨rfl, rfl⟩]
  have it : ∀ k : Nat, (k : Int) ≤ c → zt_iter (zp_fd I X c b (X + 2)) k = zt_iter (I (X + 2)) k := fun k hk => zt_iter_congr k (fun j hj => e2 j (by omega))
  have hcn : ((c.toNat : Nat) : Int) = c := by omega
  refine ⟨by unfold zp_fd; exact zu_eq ⟨rfl, rfl⟩, by omega, fun j hj => ?_, ?_⟩
  · by_cases g : (j : Int) < c
    · have := h3 j g
      unfold zt_flt at *
      rw [it j (by omega), e2 j g]
      exact this
    · have hj2 : j = c.toNat := by omega
      subst hj2
      unfold zt_flt
      rw [it _ (by omega), hcn, ec, h4]
      exact hb
  · rw [show (c + 1).toNat = c.toNat + 1 by omega]
    show (zt_byte (zp_fd I X c b (X + 2) ((c.toNat : Nat) : Int)) (zt_iter (zp_fd I X c b (X + 2)) c.toNat)).2 = _
    rw [it _ (by omega), hcn, ec, h4]
theorem zA_feed (hc : zs_cl S R X) (h : zW I X c q) (h4 : c < 400) (hb : 0 ≤ b ∧ b ≤ 127) : zG (d + 10) 99 [.inr (.inr X), .inl b] (S, I, R, T) = some (c + 1, (S, zp_fd I X c b, R, T)) := by
  have hta := zcl_ta hc
  have t2 := hta.2.1
  obtain ⟨h1, h2, -⟩ := h
  have ta := fun d => zx_Tappend (d := d) (c := b) (I := I) (T := T) hta (by rw [h1]; exact h2)
  simp only [h1, if_pos h4, show X + 1 + 1 = X + 2 by omega] at ta
  have ef : zi_up (zi_up I (X + 2) c b) (X + 1) 2 (c + 1) = zp_fd I X c b := rfl
  simp only [ef] at ta
  have j1 : zp_fd I X c b (X + 1) 2 = c + 1 := by
    unfold zp_fd
    exact zu_eq ⟨rfl, rfl⟩
  rw [zm_99]
  ((try simp only [zbd_conv]); simp (disch := first | assumption | omega | trivial) only [↓reduceIte, zbd_some, eq_self, Int.reduceEq, Int.reduceLT, Int.reduceLE, and_self, or_true, true_or, or_false, false_or, if_pos, if_neg, if_true, if_false, true_and, and_true, not_true_eq_false, not_false_eq_true, false_and, and_false, Option.bind_some, zq_t, zq_f, zq0, zq1, zw_id, zcl_x1 hc, zcl_c0 hc, t2, ta, j1])
/-- text -/
theorem zA_text (h : zA_ex S I R X) (hw : zW I X c q) (hq : q.2.2.1 = 0) : ∃ J R', zG (d + 10) 100 [.inr (.inr X)] (S, I, R, T) = some (q.1 0, (S, J, R', T)) ∧ zA_ex S J R' X ∧ J X 9 = 0 ∧ J (X + 1) 2 = 0 ∧ ∀ z, X + 300 ≤ z → J z = I z := by
  obtain ⟨P, w, t, m, e, nd, nu, h⟩ := h
  obtain ⟨hc, ⟨hrep, hwf⟩, hset, hlay⟩ := id h.1
  obtain ⟨ht, hn2, hfl, hit⟩ := id hw
  obtain ⟨f, hf⟩ : ∃ f, R X 6 = f := ⟨_, rfl⟩
  obtain ⟨g, hg⟩ : ∃ g, R X 7 = g := ⟨_, rfl⟩
  have fa := zcl_fa6 hc hf
  have ga := zcl_fa7 hc hg
  have lof := zs_fa_lo fa
  have log := zs_fa_lo ga
  have hta := zcl_ta hc
  have hG : zs_fr S R g := zcl_fb hc (Or.inl ga)
  obtain ⟨J1, v, r1, r2, r3, r4⟩ := zx_readInto (d := d + 2) (I := I) (T := T) hta hG (by omega) (by rw [ht]; exact hn2)
  rw [ht, show X + 1 + 1 = X + 2 by omega] at r3 r4
  have res : zt_res (I (X + 2)) c 0 c := Or.inr ⟨hfl, rfl, by rw [hit, hq]; rfl⟩
  obtain ⟨gv, -⟩ := zt_res_uniq r3 res
  subst gv
  have rp := r4 rfl
  rw [hit] at rp
  have wt := zW_text hw
  have wp := wt.1
  have p8 : q.1 518 = 0 := wt.2.2.1.1
  have j1 : ∀ x, x ≠ X + 1 → x ≠ X + 3 → (x < g ∨ g + 8 ≤ x) → J1 x = I x := fun x x1 x2 x3 => r2.1 x x1 (by omega) x3
  obtain ⟨J3, hJ3⟩ : ∃ J3, J3 = zi_up (zi_up J1 X 9 0) (X + 1) 2 0 := ⟨_, rfl⟩
  have j3 : ∀ x, x ≠ X → x ≠ X + 1 → J3 x = J1 x := fun x x1 x2 => by rw [hJ3, zu_off x2, zu_off x1]
  have j39 : J3 X 9 = 0 := by rw [hJ3, zu_off (by omega), zu_eq ⟨rfl, rfl⟩]
  have j32 : J3 (X + 1) 2 = 0 := by rw [hJ3, zu_eq ⟨rfl, rfl⟩]
  have j3I : ∀ x, x ≠ X → x ≠ X + 1 → x ≠ X + 3 → (x < g ∨ g + 8 ≤ x) → J3 x = I x := fun x x1 x2 x3 x4 => by rw [j3 x x1 x2, j1 x x2 x3 x4]
  obtain ⟨R', hR'⟩ : ∃ R', R' = zi_up (zi_up R X 7 f) X 6 g := ⟨_, rfl⟩
  have hc' : zs_cl S R' X := by rw [hR', ← hf, ← hg]; exact zs_cl_flip hc
  have hg' : R' X 6 = g := by rw [hR', zu_eq ⟨rfl, rfl⟩]
  have fgt := fun d => zx_forget (d := d) (I := J3) (T := T) (zcl_hi hc')
  obtain ⟨J4, hJ4⟩ : ∃ J4, J4 = zi_up (zi_up J3 (X + 5) 1 0) (X + 5) 2 0 := ⟨_, rfl⟩
  simp only [← hJ4] at fgt
  have f0 := fun d => zx_forgetImage (d := d) (I := J4) (T := T) (k := 0) hc' (by omega)
  have f1 := fun d => zx_forgetImage (d := d) (I := zi_up J4 (X + 272 + 10 * 0) 2 0) (T := T) (k := 1) hc' (by omega)
  obtain ⟨J5, hJ5⟩ : ∃ J5, J5 = zi_up (zi_up J4 (X + 272 + 10 * 0) 2 0) (X + 272 + 10 * 1) 2 0 := ⟨_, rfl⟩
  simp only [← hJ5] at f1
  have j5 : ∀ x, x ≠ X + 5 → x ≠ X + 272 → x ≠ X + 282 → J5 x = J3 x := fun x x1 x2 x3 => by rw [hJ5, zu_off (by omega), zu_off (by omega), hJ4, zu_off x1, zu_off x1]
  have j5I : ∀ x, x ≠ X → x ≠ X + 1 → x ≠ X + 3 → x ≠ X + 5 → x ≠ X + 272 → x ≠ X + 282 → (x < g ∨ g + 8 ≤ x) → J5 x = I x := fun x x1 x2 x3 x4 x5 x6 x7 => by rw [j5 x x4 x5 x6, j3I x x1 x2 x3 x7]
  have h51 : J5 (X + 5) 1 = 0 := by rw [hJ5, zu_off (by omega), zu_off (by omega), hJ4, zu_ne (by omega), zu_eq ⟨rfl, rfl⟩]
  have h52 : J5 (X + 5) 2 = 0 := by rw [hJ5, zu_off (by omega), zu_off (by omega), hJ4, zu_eq ⟨rfl, rfl⟩]
  have X4 : J5 (X + 4) = I (X + 4) := j5I _ (by omega) (by omega) (by omega) (by omega) (by omega) (by omega) (by omega)
  have rp5 : zv_rep J5 g q.1 := zv_rep_congr rp (fun q q1 q2 => by rw [j5 q (by omega) (by omega) (by omega), j3 q (by omega) (by omega)])
  obtain ⟨J, l1, l2⟩ := zA_layall (d := d + 2) (T := T) hset hc' hg' X4 rp5 wp
  have nh : ¬ zt_hid q.1 (q.1 518) := by
    rw [p8]
    rintro ⟨k, ⟨k1, k2⟩, k3, k4, k5⟩
    have := (wp.2.2.2.1 k k1 k2).1
    omega
  have set5 : zA_set J5 X w t m e := by
    unfold zA_set at *
    rw [X4]
    exact hset
  obtain ⟨v', c', b1, b2, b3, b4⟩ := zA_full hc' hg' wp nh set5 (nd := 0) (nu := 0) ⟨⟨h51, h52⟩, by omega, fun k k1 k2 => by omega⟩ l2
  have cF' := zcl_fr hc' hg'
  have cnt : J (g + 1) 0 = q.1 0 := by
    have := b3.1.2.1.1.1
    rw [hg', zt_up_ne (by omega)] at this
    exact this
  obtain ⟨v2, c2, -, -, d3, -⟩ := l2
  refine ⟨J, R', ?_, ⟨_, w, t, m, e, 0, 0, b3⟩, ?_, ?_, fun z hz => ?_⟩
  · rw [zm_100]
    ((try simp only [zbd_conv]); simp (disch := first | assumption | omega | trivial) only [↓reduceIte, zbd_some, eq_self, Int.reduceEq, Int.reduceLT, Int.reduceLE, and_self, or_true, true_or, or_false, false_or, if_pos, if_neg, if_true, if_false, true_and, and_true, not_true_eq_false, not_false_eq_true, false_and, and_false, Option.bind_some, zq_t, zq_f, zq0, zq1, zw_id, zcl_x1 hc, zcl_c0 hc, zcl_c2 hc', (zcl_hi hc).2.1, hta.2.1, hg, hf, r1, zwr, zwq, ← hJ3, j39, ← hR', fgt])
    rw [zk_100_70]
    ((try simp only [zbd_conv]); simp (disch := first | assumption | omega | trivial) only [↓reduceIte, zbd_some, eq_self, Int.reduceEq, Int.reduceLT, Int.reduceLE, and_self, or_true, true_or, or_false, false_or, if_pos, if_neg, if_true, if_false, true_and, and_true, not_true_eq_false, not_false_eq_true, false_and, and_false, Option.bind_some, zq_t, zq_f, zq0, zq1, zw_id, zcl_x1 hc, f0])
    rw [zk_100_70]
    ((try simp only [zbd_conv]); simp (disch := first | assumption | omega | trivial) only [↓reduceIte, zbd_some, eq_self, Int.reduceEq, Int.reduceLT, Int.reduceLE, and_self, or_true, true_or, or_false, false_or, if_pos, if_neg, if_true, if_false, true_and, and_true, not_true_eq_false, not_false_eq_true, false_and, and_false, Option.bind_some, zq_t, zq_f, zq0, zq1, zw_id, zcl_x1 hc, Int.reduceAdd, f1])
    rw [zk_100_70]
    ((try simp only [zbd_conv]); simp (disch := first | assumption | omega | trivial) only [↓reduceIte, zbd_some, eq_self, Int.reduceEq, Int.reduceLT, Int.reduceLE, and_self, or_true, true_or, or_false, false_or, if_pos, if_neg, if_true, if_false, true_and, and_true, not_true_eq_false, not_false_eq_true, false_and, and_false, Option.bind_some, zq_t, zq_f, zq0, zq1, zw_id, zcl_x1 hc, Int.reduceAdd, l1, hg', zfr_k cF', zfr_r0 cF', zfr_lk cF', cnt])
  · rw [d3 9 (by omega), j5 X (by omega) (by omega) (by omega), j39]
  · rw [b4 _ (by omega) (by omega) (by omega), j5 _ (by omega) (by omega) (by omega), j32]
  · rw [b4 _ (by omega) (by omega) (by omega), j5I _ (by omega) (by omega) (by omega) (by omega) (by omega) (by omega) (by omega)]
theorem zA_fault (hc : zs_cl S R X) : zG (d + 10) 101 [.inr (.inr X)] (S, I, R, T) = some (I X 9, (S, I, R, T)) := by
  rw [zm_101]
  ((try simp only [zbd_conv]); simp (disch := first | assumption | omega | trivial) only [↓reduceIte, zbd_some, eq_self, Int.reduceEq, Int.reduceLT, Int.reduceLE, and_self, or_true, true_or, or_false, false_or, if_pos, if_neg, if_true, if_false, true_and, and_true, not_true_eq_false, not_false_eq_true, false_and, and_false, Option.bind_some, zq_t, zq_f, zq0, zq1, zw_id, zcl_x1 hc])
/-! what bytes do to what is read -/
/-- line l has i signs so far; a fold is open from line o on, or none (o is -1); folds end ahead of b -/
def zZl (q : zT4) (l i o b : Int) : Prop := (q.1 0 = l + 1 ∧ q.1 (l + 1) = i) ∧ ((o = -1 ∧ q.2.2.1 = 0) ∨ (0 ≤ o ∧ q.2.2.1 = 1 ∧ q.2.1 0 = o)) ∧ q.2.2.2 ≤ l + 1 ∧ ∀ k, 0 ≤ k → k < q.1 493 → q.1 (495 + 3 * k) < b
theorem zZl_sign (hq : zw_text q) (h : zZl q l i o b) (hs : zf_sign c) (hi : i < 40) : (zt_byte c q).1 = 0 ∧ zZl (zt_byte c q).2 l (i + 1) o b := by
  obtain ⟨P, B, oo, nn⟩ := q
  obtain ⟨⟨h1, h2⟩, h3, h4, h5⟩ := h
  have w1 := hq.1.1
  have w3 := hq.1.2.2.1
  have wl := hq.1.2.1
  dsimp only at h1 h2 h3 h4 h5 w1 w3 wl
  have wll := wl l (by omega) (by omega)
  rw [show 1 + l = l + 1 by omega, h2] at wll
  unfold zt_byte
  rw [zt_if_t hs]
  dsimp only
  have hpp : P (P 0) = i := by rw [h1, h2]
  rw [if_neg (by omega), h1, h2]
  refine ⟨rfl, ⟨?_, ?_⟩, h3, h4, fun k k1 k2 => ?_⟩
  · dsimp only
    rw [zt_up_ne (by omega), zt_up_ne (by omega), h1]
  · dsimp only
    rw [zt_up_eq rfl]
  · dsimp only at k2 ⊢
    rw [zt_up_ne (by omega), zt_up_ne (by omega)] at k2
    rw [zt_up_ne (by omega), zt_up_ne (by omega)]
    exact h5 k k1 k2
theorem zZl_line (hq : zw_text q) (h : zZl q l i o b) (hl : l < 11) (hb : b ≤ c) : (zt_byte 10 q).1 = 0 ∧ zZl (zt_byte 10 q).2 (l + 1) 0 o c ∧ (zt_byte 10 q).2.2.2.2 ≤ l + 1 := by
  obtain ⟨P, B, oo, nn⟩ := q
  obtain ⟨⟨h1, h2⟩, h3, h4, h5⟩ := h
  have w1 := hq.1.1
  have wz := hq.2.1
  dsimp only at h1 h2 h3 h4 h5 w1 wz
  unfold zt_byte
  rw [zt_if_f (by unfold zf_sign; omega), if_pos rfl]
  dsimp only
  rw [if_neg (by omega), h1]
  refine ⟨rfl, ⟨⟨?_, ?_⟩, h3, by dsimp only; omega, fun k k1 k2 => ?_⟩, h4⟩
  · dsimp only
    rw [zt_up_eq rfl]
  · dsimp only
    rw [zt_up_ne (by omega), show l + 1 + 1 = 1 + (l + 1) by omega]
    exact wz (l + 1) (by omega) (by omega)
  · dsimp only at k2 ⊢
    rw [zt_up_ne (by omega)] at k2
    rw [zt_up_ne (by omega)]
    have := h5 k k1 k2
    omega
theorem zZl_open (hq : zw_text q) (h : zZl q l i (-1) l) (hn : q.2.2.2 ≤ l) (hl : 0 ≤ l ∧ l < 8) : (zt_byte 91 q).1 = 0 ∧ zZl (zt_byte 91 q).2 l i l l := by
  obtain ⟨P, B, oo, nn⟩ := q
  obtain ⟨⟨h1, h2⟩, h3, h4, h5⟩ := h
  dsimp only at h1 h2 h3 h4 h5 hn
  have h3' : oo = 0 := by omega
  unfold zt_byte
  rw [zt_if_f (by unfold zf_sign; omega), if_neg (by omega), if_pos rfl]
  dsimp only
  rw [if_neg (by omega)]
  refine ⟨rfl, ⟨h1, h2⟩, Or.inr ⟨hl.1, ?_, ?_⟩, ?_, h5⟩
  · dsimp only; omega
  · dsimp only
    rw [zt_up_eq (by omega), h1]
    omega
  · dsimp only; omega
theorem zZl_close (hq : zw_text q) (h : zZl q l i o o) (ho : 0 ≤ o ∧ o < l) : (zt_byte 93 q).1 = 0 ∧ zZl (zt_byte 93 q).2 l i (-1) (l + 1) := by
  obtain ⟨P, B, oo, nn⟩ := q
  obtain ⟨⟨h1, h2⟩, h3, h4, h5⟩ := h
  obtain ⟨wp, wz, wc, wo, wb, wn⟩ := hq
  have w1 := wp.1
  have w3 := wp.2.2.1
  dsimp only at h1 h2 h3 h4 h5 w1 w3 wn wo
  have h3' : oo = 1 ∧ B 0 = o := by omega
  have nag : ¬ zt_ag P o l := by
    rintro ⟨k, ⟨k1, k2⟩, k3⟩
    have a1 := h5 k k1 k2
    have a2 := (wp.2.2.2.1 k k1 k2).1
    dsimp only at a2
    unfold zf_odds at k3
    omega
  unfold zt_byte
  rw [zt_if_f (by unfold zf_sign; omega), if_neg (by omega), if_neg (by omega), if_pos rfl]
  dsimp only
  rw [if_neg (by omega), h3'.1, show (1 : Int) - 1 = 0 by omega, h3'.2, h1, show l + 1 - 1 = l by omega, zt_if_t ⟨ho.2, nag⟩]
  have pb := (zt_pos_b (P := P) (x := o) (y := l) w3.1).1
  generalize zt_pos P o l = pos at pb
  refine ⟨rfl, ⟨?_, ?_⟩, Or.inl ⟨rfl, rfl⟩, h4, fun k k1 k2 => ?_⟩
  · dsimp only
    rw [zt_fins_lo (by omega) (by omega), h1]
  · dsimp only
    rw [zt_fins_lo (by omega) (by omega), h2]
  · dsimp only at k2 ⊢
    rw [zt_fins_n] at k2
    rcases Int.lt_trichotomy k pos with z | z | z
    · rw [zt_fins_l (by omega) ⟨k1, z⟩]
      have := h5 k k1 (by omega)
      omega
    · rw [z, zt_fins_y (by omega)]
      omega
    · rw [zt_fins_h (by omega) (by omega) ⟨z, by omega⟩]
      have := h5 (k - 1) (by omega) (by omega)
      omega
end ZAf
