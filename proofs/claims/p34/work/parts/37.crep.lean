/-! the class: what the object holds, told as the rows of the reference -/
def zs_im (S : zS) (R : zI) (y : Int) : Prop := 0 < y ∧ (S y).1 = 3 ∧ R y 0 = y + 1 ∧ R y 1 = y + 9 ∧ zs_se S (y + 9)
/-- where the frames lie that change places; where the others lie -/
def zs_fa (X f : Int) : Prop := ((f - X) % 8 = 7 ∧ X + 7 ≤ f ∧ f ≤ X + 127) ∨ f = X + 256 ∨ f = X + 264
def zs_fb (X f : Int) : Prop := zs_fa X f ∨ f = X + 273 ∨ f = X + 283
def zs_cl (S : zS) (R : zI) (X : Int) : Prop := (0 < X ∧ (S X).1 = 10) ∧ (R X 0 = X + 1 ∧ R X 1 = X + 4 ∧ R X 2 = X + 5 ∧ R X 3 = X + 135 ∧ R X 4 = X + 254 ∧ R X 5 = X + 255) ∧ zs_ta S R (X + 1) ∧ zs_se S (X + 4) ∧ zs_hi S R (X + 5) ∧ zs_sc S R (X + 135) ∧ (S (X + 254) = (15, 2) ∧ ∀ k, 0 ≤ k → k < 2 → R (X + 254) k = X + 272 + 10 * k ∧ zs_im S R (X + 272 + 10 * k)) ∧ (S (X + 255) = (17, 4) ∧ ∀ k, 0 ≤ k → k < 4 → R (X + 255) k = X + 292 + 2 * k ∧ zs_sh S R (X + 292 + 2 * k)) ∧ (∀ f, zs_fb X f → zs_fr S R f) ∧ (zs_fa X (R X 6) ∧ zs_fa X (R X 7) ∧ ∀ k, 0 ≤ k → k < 16 → zs_fa X (R (X + 6) k)) ∧ (R X 6 ≠ R X 7 ∧ (∀ k, 0 ≤ k → k < 16 → R (X + 6) k ≠ R X 6 ∧ R (X + 6) k ≠ R X 7) ∧ ∀ j k, 0 ≤ j → j < k → k < 16 → R (X + 6) j ≠ R (X + 6) k)
def zt_sl (P : Int → Int) (o : Int) : Int → Int := fun j => P (o + j)
def zc_now (I : zI) (f : Int) (A : zI) : Prop := zv_rep I f (A 1) ∧ zw_page (A 1)
def zc_set (I : zI) (X : Int) (A : zI) : Prop := (I (X + 4) 0 = A 0 6 ∧ I (X + 4) 1 = A 0 7 ∧ I (X + 4) 2 = A 0 8 ∧ I (X + 4) 3 = A 0 9) ∧ zr_mo A 0
def zc_lay (I : zI) (X : Int) (A : zI) : Prop := ∀ l, 0 ≤ l → l < A 1 0 → zl_laid (A 1) (A 0 6) (A 0 7) (A 0 8) (A 0 9) I (X + 135) l
def zc_num (I : zI) (X : Int) (A : zI) : Prop := I X 8 = A 0 10 ∧ I X 9 = A 0 13
def zc_tap (I : zI) (X : Int) (A : zI) : Prop := I (X + 1) 2 = A 0 12 ∧ (0 ≤ A 0 12 ∧ A 0 12 ≤ 400) ∧ ∀ j, 0 ≤ j → j < A 0 12 → I (X + 2) j = A 5 j
def zc_his (I R : zI) (X : Int) (A : zI) : Prop := (I (X + 5) 1 = A 0 4 ∧ I (X + 5) 2 = A 0 5) ∧ (0 ≤ A 0 4 ∧ 0 ≤ A 0 5 ∧ A 0 4 + A 0 5 ≤ 16) ∧ (∀ k, 0 ≤ k → k < A 0 4 → zv_rep I (R (X + 6) k) (zt_sl (A 3) (520 * k)) ∧ zw_page (zt_sl (A 3) (520 * k))) ∧ ∀ j, 0 ≤ j → j < A 0 5 → zv_rep I (R (X + 6) (A 0 4 + j)) (zt_sl (A 4) (520 * (A 0 5 - 1 - j))) ∧ zw_page (zt_sl (A 4) (520 * (A 0 5 - 1 - j)))
def zc_im1 (I : zI) (X : Int) (A : zI) (k : Int) : Prop := (I (X + 272 + 10 * k) 2 = A 12 k ∧ (A 12 k = 0 ∨ A 12 k = 1)) ∧ (A 12 k = 1 → (zv_rep I (X + 273 + 10 * k) (zt_sl (A 13) (524 * k)) ∧ zw_page (zt_sl (A 13) (524 * k))) ∧ (∀ q, 0 ≤ q → q < 4 → I (X + 281 + 10 * k) q = A 13 (524 * k + 520 + q)) ∧ zr_se I (X + 281 + 10 * k))
def zc_img (I : zI) (X : Int) (A : zI) : Prop := ∀ k, 0 ≤ k → k < 2 → zc_im1 I X A k
def zc_sh1 (I : zI) (X : Int) (A : zI) (k : Int) : Prop := (0 ≤ I (X + 292 + 2 * k) 2 ∧ I (X + 292 + 2 * k) 2 ≤ 20) ∧ ((I (X + 292 + 2 * k) 0 = 0 ∧ A 14 k = -4) ∨ (I (X + 292 + 2 * k) 0 = 1 ∧ (0 ≤ A 14 k ∧ A 14 k ≤ 3) ∧ I (X + 292 + 2 * k) 1 = A 14 k ∧ I (X + 292 + 2 * k) 2 = A 15 k ∧ ∀ j, 0 ≤ j → j < A 15 k → I (X + 292 + 2 * k + 1) j = A 16 (20 * k + j)))
def zc_shs (I : zI) (X : Int) (A : zI) : Prop := ∀ k, 0 ≤ k → k < 4 → zc_sh1 I X A k
def zc_all (I R : zI) (X : Int) (A : zI) : Prop := zc_now I (R X 6) A ∧ zc_set I X A ∧ zc_lay I X A ∧ zc_num I X A ∧ zc_tap I X A ∧ zc_his I R X A ∧ zc_img I X A ∧ zc_shs I X A
theorem zs_fa_ne {X f g : Int} (hf : zs_fa X f) (hg : zs_fa X g) (h : f ≠ g) : f + 8 ≤ g ∨ g + 8 ≤ f := by
  unfold zs_fa at hf hg
  omega
theorem zs_fa_lo {X f : Int} (hf : zs_fa X f) : X + 7 ≤ f ∧ (f + 8 ≤ X + 135 ∨ (X + 256 ≤ f ∧ f + 8 ≤ X + 272)) := by
  unfold zs_fa at hf
  omega
/-- where the caret of a page settles, and in which column -/
def zl_settle (P : Int → Int) (w t m e v c : Int) : Prop := ∃ rows : Int, ∃ rA cA ceA hA rB : Int → Int, zl_ok (P (1 + P 518)) w t m (zl_ind (P (1 + P 518)) w t m e (zt_sg P (P 518))) (zt_sg P (P 518)) rows rA cA ceA hA rB ∧ zl_nx (P 519) (P (1 + P 518)) (zl_isstop (P (1 + P 518)) (zt_sg P (P 518)) hA) v ∧ c = cA v
theorem zl_isstop_congr {n i : Int} {s hA hA' : Int → Int} (h : hA i = hA' i) : zl_isstop n s hA i ↔ zl_isstop n s hA' i := by
  unfold zl_isstop
  rw [h]
theorem zl_settle_uniq {P : Int → Int} {w t m e v c v' c' : Int} (hn : 0 ≤ P (1 + P 518)) (hp : 0 ≤ P 519) (h : zl_settle P w t m e v c) (h' : zl_settle P w t m e v' c') : v = v' ∧ c = c' := by
  obtain ⟨_, rA, cA, ceA, hA, rB, h1, h2, h3⟩ := h
  obtain ⟨_, rA', cA', ceA', hA', rB', g1, g2, g3⟩ := h'
  obtain ⟨u1, u2, u3, u4⟩ := zl_uniq hn h1 g1
  have hv : v = v' := zl_nx_uniq h2 g2 (fun k k1 k2 => zl_isstop_congr (u4 k (by omega) k2).2)
  refine ⟨hv, ?_⟩
  rw [h3, g3, ← hv]
  exact (u3 v (by have := h2.1; omega) h2.2.1).2
theorem zl_laid_congr {P Q : Int → Int} {w t m e a l : Int} {I : zI} (h : zl_laid P w t m e I a l) (hl : 0 ≤ l ∧ l < 12) (he : Q (1 + l) = P (1 + l)) (hs : ∀ i, 0 ≤ i → i < P (1 + l) → Q (13 + 40 * l + i) = P (13 + 40 * l + i)) : zl_laid Q w t m e I a l := by
  have es : zt_sg Q l = zt_sg P l := by
    funext i
    unfold zt_sg
    rw [he]
    by_cases g : 0 ≤ i ∧ i < P (1 + l)
    · rw [if_pos g, if_pos g]; exact hs i g.1 g.2
    · rw [if_neg g, if_neg g]
  unfold zl_laid at *
  rw [he, es]
  exact h
theorem zl_laid_mem {P : Int → Int} {w t m e a l : Int} {I J : zI} (h : zl_laid P w t m e I a l) (hl : 0 ≤ l ∧ l < 12) (he : ∀ q, a + 11 ≤ q → q < a + 119 → J q = I q) : zl_laid P w t m e J a l := zl_pic_congr h (fun q q1 q2 => he q (by omega) (by omega))
/-- the caret elsewhere in its page -/
theorem zv_rep_caret {I : zI} {f l p : Int} {P : Int → Int} (h : zv_rep I f P) (hw : zw_page P) (hl : 0 ≤ l ∧ l < P 0) (hp : 0 ≤ p ∧ p ≤ P (1 + l)) : zv_rep (zi_up (zi_up I f 2 l) f 3 p) f (zt_up (zt_up P 518 l) 519 p) ∧ zw_page (zt_up (zt_up P 518 l) 519 p) := by
  obtain ⟨h1, h2, h3, h4, h5, h6, h7⟩ := h
  obtain ⟨w1, w2, w3, w4, w5, w6, w7⟩ := hw
  have e : ∀ j, j ≠ 518 → j ≠ 519 → zt_up (zt_up P 518 l) 519 p j = P j := fun j j1 j2 => by rw [zt_up_ne j2, zt_up_ne j1]
  have o : ∀ q, q ≠ f → zi_up (zi_up I f 2 l) f 3 p q = I q := fun q hq => by rw [zu_off hq, zu_off hq]
  refine ⟨⟨?_, fun i l1 l2 => ?_, fun i j l1 l2 i1 i2 => ?_, ?_, fun k k1 k2 => ?_, ?_, ?_⟩, ?_, fun i l1 l2 => ?_, ?_, fun k k1 k2 => ?_, fun j k j1 jk k2 => ?_, ?_, ?_⟩
  · rw [o _ (by omega), e 0 (by omega) (by omega)]; exact h1
  · rw [e 0 (by omega) (by omega)] at l2
    rw [o _ (by omega), e _ (by omega) (by omega)]; exact h2 i l1 l2
  · rw [e 0 (by omega) (by omega)] at l2
    rw [e _ (by omega) (by omega)] at i2
    have := w2 i l1 l2
    rw [o _ (by omega), e _ (by omega) (by omega)]; exact h3 i j l1 l2 i1 i2
  · rw [o _ (by omega), e _ (by omega) (by omega)]; exact h4
  · rw [e 493 (by omega) (by omega)] at k2
    rw [o _ (by omega), o _ (by omega), o _ (by omega), e (494 + 3 * k) (by omega) (by omega), e (495 + 3 * k) (by omega) (by omega), e (496 + 3 * k) (by omega) (by omega)]
    exact h5 k k1 k2
  · rw [zu_ne (by omega), zu_eq ⟨rfl, rfl⟩, zt_up_ne (by omega), zt_up_eq rfl]
  · rw [zu_eq ⟨rfl, rfl⟩, zt_up_eq rfl]
  · rw [e 0 (by omega) (by omega)]; exact w1
  · rw [e 0 (by omega) (by omega)] at l2
    rw [e _ (by omega) (by omega)]; exact w2 i l1 l2
  · rw [e 493 (by omega) (by omega)]; exact w3
  · rw [e 493 (by omega) (by omega)] at k2
    rw [e 0 (by omega) (by omega), e (494 + 3 * k) (by omega) (by omega), e (495 + 3 * k) (by omega) (by omega), e (496 + 3 * k) (by omega) (by omega)]
    exact w4 k k1 k2
  · rw [e 493 (by omega) (by omega)] at k2
    rw [e (494 + 3 * k) (by omega) (by omega), e (495 + 3 * k) (by omega) (by omega), e (494 + 3 * j) (by omega) (by omega), e (495 + 3 * j) (by omega) (by omega)]
    exact w5 j k j1 jk k2
  · rw [zt_up_ne (by omega), zt_up_eq rfl, e 0 (by omega) (by omega)]; exact hl
  · have e8 : zt_up (zt_up P 518 l) 519 p 518 = l := by rw [zt_up_ne (by omega), zt_up_eq rfl]
    rw [zt_up_eq rfl, e8, e (1 + l) (by omega) (by omega)]; exact hp
section ZCr
variable {d : Nat} {S : zS} {I J R : zI} {T : Int × Nat} {X n v l f c m k x y z r i p w t e : Int} {P : Int → Int}
theorem zx_imageOf (h : zs_cl S R X) : zG (d + 1) 133 [.inr (.inr X), .inl k] (S, I, R, T) = some (if 0 ≤ k ∧ k < 2 then X + 272 + 10 * k else 0, (S, I, R, T)) := by
  obtain ⟨⟨x0, x1⟩, ⟨c0, c1, c2, c3, c4, c5⟩, hta, hse, hhi, hsc, ⟨ims, hims⟩, ⟨shs, hshs⟩, hfr, ⟨fa6, fa7, fas⟩, ⟨ne67, nes, ness⟩⟩ := id h
  rw [zm_133]
  by_cases g : k < 0
  · ((try simp only [zbd_conv]); simp (disch := first | assumption | omega | trivial) only [↓reduceIte, zbd_some, eq_self, Int.reduceEq, Int.reduceLT, Int.reduceLE, and_self, or_true, true_or, or_false, false_or, if_pos, if_neg, if_true, if_false, true_and, and_true, not_true_eq_false, not_false_eq_true, false_and, and_false, Option.bind_some, zq_t, zq_f, zq0, zq1, zw_id])
  · by_cases g2 : k < 2
    · have q := (hims k (by omega) g2).1
      ((try simp only [zbd_conv]); simp (disch := first | assumption | omega | trivial) only [↓reduceIte, zbd_some, eq_self, Int.reduceEq, Int.reduceLT, Int.reduceLE, and_self, or_true, true_or, or_false, false_or, if_pos, if_neg, if_true, if_false, true_and, and_true, not_true_eq_false, not_false_eq_true, false_and, and_false, Option.bind_some, zq_t, zq_f, zq0, zq1, zw_id, x1, c4, ims, q])
    · ((try simp only [zbd_conv]); simp (disch := first | assumption | omega | trivial) only [↓reduceIte, zbd_some, eq_self, Int.reduceEq, Int.reduceLT, Int.reduceLE, and_self, or_true, true_or, or_false, false_or, if_pos, if_neg, if_true, if_false, true_and, and_true, not_true_eq_false, not_false_eq_true, false_and, and_false, Option.bind_some, zq_t, zq_f, zq0, zq1, zw_id, x1, c4, ims])
theorem zs_cl_ll (h : zs_cl S R X) (hl : 0 ≤ l ∧ l < 12) : zs_ll S R (X + 135 + 11 + 9 * l) := by
  obtain ⟨⟨x0, x1⟩, ⟨c0, c1, c2, c3, c4, c5⟩, hta, hse, hhi, hsc, ⟨ims, hims⟩, ⟨shs, hshs⟩, hfr, ⟨fa6, fa7, fas⟩, ⟨ne67, nes, ness⟩⟩ := id h
  exact (hsc.2.2.2.2 l hl.1 hl.2).2
theorem zx_caretColumn (h : zs_cl S R X) (hf : R X 6 = f) (hl : I f 2 = l) (hp : I f 3 = p) (hl2 : 0 ≤ l ∧ l < 12) (hp2 : 0 ≤ p ∧ p ≤ 40) : zG (d + 3) 130 [.inr (.inr X)] (S, I, R, T) = some (I (X + 135 + 11 + 9 * l + 2) p, (S, I, R, T)) := by
  obtain ⟨⟨x0, x1⟩, ⟨c0, c1, c2, c3, c4, c5⟩, hta, hse, hhi, hsc, ⟨ims, hims⟩, ⟨shs, hshs⟩, hfr, ⟨fa6, fa7, fas⟩, ⟨ne67, nes, ness⟩⟩ := id h
  rw [hf] at fa6
  have f1 := (hfr f (Or.inl fa6)).2.1
  have hll := zs_cl_ll h hl2
  rw [zm_130]
  ((try simp only [zbd_conv]); simp (disch := first | assumption | omega | trivial) only [↓reduceIte, zbd_some, eq_self, Int.reduceEq, Int.reduceLT, Int.reduceLE, and_self, or_true, true_or, or_false, false_or, if_pos, if_neg, if_true, if_false, true_and, and_true, not_true_eq_false, not_false_eq_true, false_and, and_false, Option.bind_some, zq_t, zq_f, zq0, zq1, zw_id, x1, c3, hf, f1, hl, hp, hsc.2.1, zx_laidLine hsc, hll.2.1, zx_columnOf hll, zk_pk_in])
theorem zx_moveCaret (h : zs_cl S R X) (hf : R X 6 = f) (hl2 : 0 ≤ l ∧ l < 12) (hp2 : 0 ≤ p ∧ p ≤ 40) : zG (d + 4) 128 [.inr (.inr X), .inl l, .inl p] (S, I, R, T) = some (0, (S, zi_up (zi_up (zi_up I f 2 l) f 3 p) X 8 (I (X + 135 + 11 + 9 * l + 2) p), R, T)) := by
  obtain ⟨⟨x0, x1⟩, ⟨c0, c1, c2, c3, c4, c5⟩, hta, hse, hhi, hsc, ⟨ims, hims⟩, ⟨shs, hshs⟩, hfr, ⟨fa6, fa7, fas⟩, ⟨ne67, nes, ness⟩⟩ := id h
  rw [hf] at fa6
  have f1 := (hfr f (Or.inl fa6)).2.1
  have hlo := zs_fa_lo fa6
  have cc := zx_caretColumn (d := d) (I := zi_up (zi_up I f 2 l) f 3 p) (T := T) (l := l) (p := p) h hf (by rw [zu_ne (by omega), zu_eq ⟨rfl, rfl⟩]) (zu_eq ⟨rfl, rfl⟩) hl2 hp2
  rw [zu_off (show ¬ X + 135 + 11 + 9 * l + 2 = f by omega), zu_off (show ¬ X + 135 + 11 + 9 * l + 2 = f by omega)] at cc
  rw [zm_128]
  ((try simp only [zbd_conv]); simp (disch := first | assumption | omega | trivial) only [↓reduceIte, zbd_some, eq_self, Int.reduceEq, Int.reduceLT, Int.reduceLE, and_self, or_true, true_or, or_false, false_or, if_pos, if_neg, if_true, if_false, true_and, and_true, not_true_eq_false, not_false_eq_true, false_and, and_false, Option.bind_some, zq_t, zq_f, zq0, zq1, zw_id, x1, hf, f1, zwr, cc])
theorem zx_settleCaret (h : zs_cl S R X) (hf : R X 6 = f) (hl : I f 2 = l) (hp : I f 3 = p) (hl2 : 0 ≤ l ∧ l < 12) (hn : I (X + 135 + 11 + 9 * l) 0 = n) (hn2 : n ≤ 40) (hp2 : 0 ≤ p ∧ p ≤ n) : ∃ v, zG (d + 5) 127 [.inr (.inr X)] (S, I, R, T) = some (0, (S, zi_up (zi_up (zi_up I f 2 l) f 3 v) X 8 (I (X + 135 + 11 + 9 * l + 2) v), R, T)) ∧ zl_nx p n (fun j => I (X + 135 + 11 + 9 * l + 5) j = 1) v := by
  obtain ⟨⟨x0, x1⟩, ⟨c0, c1, c2, c3, c4, c5⟩, hta, hse, hhi, hsc, ⟨ims, hims⟩, ⟨shs, hshs⟩, hfr, ⟨fa6, fa7, fas⟩, ⟨ne67, nes, ness⟩⟩ := id h
  rw [hf] at fa6
  have f1 := (hfr f (Or.inl fa6)).2.1
  have hll := zs_cl_ll h hl2
  obtain ⟨v, e1, e2⟩ := zx_stopFrom (d := d + 1) (I := I) (T := T) (i := p) hll (by rw [hn]; exact hp2) (by rw [hn]; exact hn2)
  rw [hn] at e2
  have mv := zx_moveCaret (d := d) (I := I) (T := T) (l := l) (p := v) h hf hl2 (by have := e2.1; have := e2.2.1; omega)
  refine ⟨v, ?_, e2⟩
  rw [zm_127]
  ((try simp only [zbd_conv]); simp (disch := first | assumption | omega | trivial) only [↓reduceIte, zbd_some, eq_self, Int.reduceEq, Int.reduceLT, Int.reduceLE, and_self, or_true, true_or, or_false, false_or, if_pos, if_neg, if_true, if_false, true_and, and_true, not_true_eq_false, not_false_eq_true, false_and, and_false, Option.bind_some, zq_t, zq_f, zq0, zq1, zw_id, x1, c3, hf, f1, hl, hp, hsc.2.1, zx_laidLine hsc, hll.2.1, e1, mv])
/-- behind an edit of lines: all is laid, the caret settles -/
def zc_done (I J : zI) (X f : Int) (P : Int → Int) (w t m e : Int) : Prop := ∃ v c, zl_settle P w t m e v c ∧ (∀ q, q ≠ X → q ≠ f → (q < X + 135 ∨ X + 255 ≤ q) → J q = I q) ∧ (∀ j, j ≠ 8 → J X j = I X j) ∧ J X 8 = c ∧ (zv_rep J f (zt_up P 519 v) ∧ zw_page (zt_up P 519 v)) ∧ ∀ l, 0 ≤ l → l < P 0 → zl_laid (zt_up P 519 v) w t m e J (X + 135) l
theorem zc_settles (h : zs_cl S R X) (hf : R X 6 = f) (hr : zv_rep I f P) (hw : zw_page P) (hl : ∀ l, 0 ≤ l → l < P 0 → zl_laid P w t m e I (X + 135) l) : ∃ J, zG (d + 5) 127 [.inr (.inr X)] (S, I, R, T) = some (0, (S, J, R, T)) ∧ zc_done I J X f P w t m e := by
  obtain ⟨⟨x0, x1⟩, ⟨c0, c1, c2, c3, c4, c5⟩, hta, hse, hhi, hsc, ⟨ims, hims⟩, ⟨shs, hshs⟩, hfr, ⟨fa6, fa7, fas⟩, ⟨ne67, nes, ness⟩⟩ := id h
  rw [hf] at fa6
  have hlo := zs_fa_lo fa6
  obtain ⟨w1, w2, w3, w4, w5, w6, w7, w8⟩ := id hw
  obtain ⟨r1, r2, r3, r4, r5, r6, r7⟩ := id hr
  have hn2 := w2 (P 518) w6.1 w6.2
  obtain ⟨q1, q2, q3, q4, q5, q6⟩ := hl (P 518) w6.1 w6.2
  obtain ⟨v, e1, e2⟩ := zx_settleCaret (d := d) (I := I) (T := T) h hf r6 r7 (by omega) q1 hn2.2 ⟨w7, w8⟩
  have v1 := e2.1
  have v2 := e2.2.1
  have hst : zl_settle P w t m e v (I (X + 135 + 11 + 9 * P 518 + 2) v) := by
    refine ⟨_, _, _, _, _, _, q3, ⟨v1, v2, ?_, fun k k1 k2 => ?_⟩, rfl⟩
    · rcases e2.2.2.1 with z | z
      · exact Or.inl z
      · rw [q4 v (by omega) v2, zq1] at z
        exact Or.inr z
    · have this : ¬ I (X + 135 + 11 + 9 * P 518 + 5) k = 1 := e2.2.2.2 k k1 k2
      rw [q4 k (by omega) (by omega), zq1] at this
      exact this
  have rp := zv_rep_caret (p := v) hr hw w6 ⟨by omega, v2⟩
  have e8 : zt_up (zt_up P 518 (P 518)) 519 v = zt_up P 519 v := by
    funext j
    by_cases g : j = 519
    · rw [zt_up_eq g, zt_up_eq g]
    · rw [zt_up_ne g, zt_up_ne g]
      by_cases g2 : j = 518
      · rw [zt_up_eq g2, g2]
      · rw [zt_up_ne g2]
  rw [e8] at rp
  refine ⟨_, e1, v, _, hst, fun q q1 q2 q3 => ?_, fun j hj => ?_, zu_eq ⟨rfl, rfl⟩, ⟨zv_rep_congr rp.1 (fun q q1 q2 => zu_off (by omega)), rp.2⟩, fun l l1 l2 => ?_⟩
  · rw [zu_off q1, zu_off q2, zu_off q2]
  · rw [zu_ne (by omega), zu_ne (by omega), zu_ne (by omega)]
  · refine zl_laid_congr (P := P) (zl_laid_mem (hl l l1 l2) (by omega) (fun q q1 q2 => ?_)) (by omega) (zt_up_ne (by omega)) (fun i i1 i2 => ?_)
    · rw [zu_off (by omega), zu_off (by omega), zu_off (by omega)]
    · have := w2 l l1 l2
      exact zt_up_ne (by omega)
theorem zc_done_trans {K : zI} (h : ∀ q, q ≠ X → q ≠ f → (q < X + 135 ∨ X + 255 ≤ q) → J q = I q) (hX : ∀ j, j ≠ 8 → J X j = I X j) (hd : zc_done J K X f P w t m e) : zc_done I K X f P w t m e := by
  obtain ⟨v, c, d1, d2, d3, d4⟩ := hd
  exact ⟨v, c, d1, fun q q1 q2 q3 => (d2 q q1 q2 q3).trans (h q q1 q2 q3), fun j hj => (d3 j hj).trans (hX j hj), d4⟩
theorem zx_layAll (h : zs_cl S R X) (hf : R X 6 = f) (hr : zv_rep I f P) (hw : zw_page P) (hs : zr_se I (X + 4)) : ∃ J, zG (d + 7) 125 [.inr (.inr X)] (S, I, R, T) = some (0, (S, J, R, T)) ∧ zc_done I J X f P (I (X + 4) 0) (I (X + 4) 1) (I (X + 4) 2) (I (X + 4) 3) := by
  obtain ⟨⟨x0, x1⟩, ⟨c0, c1, c2, c3, c4, c5⟩, hta, hse, hhi, hsc, ⟨ims, hims⟩, ⟨shs, hshs⟩, hfr, ⟨fa6, fa7, fas⟩, ⟨ne67, nes, ness⟩⟩ := id h
  rw [hf] at fa6
  have hlo := zs_fa_lo fa6
  obtain ⟨g0, g1, g2, g3, g4, g5⟩ := hfr f (Or.inl fa6)
  obtain ⟨w1, w2, w3, w4, w5, w6, w7, w8⟩ := id hw
  obtain ⟨r1, r2, r3, r4, r5, r6, r7⟩ := id hr
  have a1 : f + 1 + 1 = f + 2 := by omega
  have a2 : f + 1 + 2 = f + 3 := by omega
  obtain ⟨J, e1, e2, e3⟩ := zx_layLines (d := d) (I := I) (T := T) (P := P) hsc g4 hse hs (by omega) (by omega) r1 (by omega) (fun l l1 l2 => ⟨by rw [a1]; exact r2 l l1 l2, w2 l l1 l2⟩) (fun l i l1 l2 i1 i2 => by rw [a2]; exact r3 l i l1 l2 i1 i2)
  obtain ⟨K, k1, k2⟩ := zc_settles (d := d + 1) (I := J) (T := T) h hf (zv_rep_congr hr (fun q q1 q2 => e2 q (by omega))) hw e3
  refine ⟨K, ?_, zc_done_trans (fun q q1 q2 q3 => e2 q (by omega)) (fun j _ => by rw [e2 X (by omega)]) k2⟩
  rw [zm_125]
  ((try simp only [zbd_conv]); simp (disch := first | assumption | omega | trivial) only [↓reduceIte, zbd_some, eq_self, Int.reduceEq, Int.reduceLT, Int.reduceLE, and_self, or_true, true_or, or_false, false_or, if_pos, if_neg, if_true, if_false, true_and, and_true, not_true_eq_false, not_false_eq_true, false_and, and_false, Option.bind_some, zq_t, zq_f, zq0, zq1, zw_id, x1, c1, c3, hf, g1, g2, hsc.2.1, e1, k1])
theorem zx_layCaretLine (h : zs_cl S R X) (hf : R X 6 = f) (hr : zv_rep I f P) (hw : zw_page P) (hs : zr_se I (X + 4)) (hl : ∀ l, 0 ≤ l → l < P 0 → l ≠ P 518 → zl_laid P (I (X + 4) 0) (I (X + 4) 1) (I (X + 4) 2) (I (X + 4) 3) I (X + 135) l) : ∃ J, zG (d + 6) 126 [.inr (.inr X)] (S, I, R, T) = some (0, (S, J, R, T)) ∧ zc_done I J X f P (I (X + 4) 0) (I (X + 4) 1) (I (X + 4) 2) (I (X + 4) 3) := by
  obtain ⟨⟨x0, x1⟩, ⟨c0, c1, c2, c3, c4, c5⟩, hta, hse, hhi, hsc, ⟨ims, hims⟩, ⟨shs, hshs⟩, hfr, ⟨fa6, fa7, fas⟩, ⟨ne67, nes, ness⟩⟩ := id h
  rw [hf] at fa6
  have hlo := zs_fa_lo fa6
  obtain ⟨g0, g1, g2, g3, g4, g5⟩ := hfr f (Or.inl fa6)
  obtain ⟨w1, w2, w3, w4, w5, w6, w7, w8⟩ := id hw
  obtain ⟨r1, r2, r3, r4, r5, r6, r7⟩ := id hr
  have a1 : f + 1 + 1 = f + 2 := by omega
  have a2 : f + 1 + 2 = f + 3 := by omega
  have hll := zs_cl_ll h (show 0 ≤ P 518 ∧ P 518 < 12 by omega)
  obtain ⟨J, e1, e2, e3⟩ := zx_arrange (d := d) (I := I) (T := T) (l := P 518) (s := zt_sg P (P 518)) (n := P (1 + P 518)) hll g4 hse hs (by omega) (by omega) (by omega) (by rw [a1]; exact r2 _ w6.1 w6.2) (w2 _ w6.1 w6.2) (fun i i1 i2 => by rw [a2, zt_sg_in ⟨i1, i2⟩]; exact r3 _ i w6.1 w6.2 i1 i2)
  have e4 : ∀ q, (q < X + 135 ∨ X + 255 ≤ q) → J q = I q := fun q hq => e2 q (by omega)
  obtain ⟨K, k1, k2⟩ := zc_settles (d := d) (I := J) (T := T) (w := I (X + 4) 0) (t := I (X + 4) 1) (m := I (X + 4) 2) (e := I (X + 4) 3) h hf (zv_rep_congr hr (fun q q1 q2 => e4 q (by omega))) hw (fun l l1 l2 => by
    by_cases g : l = P 518
    · rw [g]; exact e3
    · exact zl_pic_congr (hl l l1 l2 g) (fun q q1 q2 => e2 q (by omega)))
  refine ⟨K, ?_, zc_done_trans (fun q q1 q2 q3 => e4 q q3) (fun j _ => by rw [e4 X (by omega)]) k2⟩
  rw [zm_126]
  ((try simp only [zbd_conv]); simp (disch := first | assumption | omega | trivial) only [↓reduceIte, zbd_some, eq_self, Int.reduceEq, Int.reduceLT, Int.reduceLE, and_self, or_true, true_or, or_false, false_or, if_pos, if_neg, if_true, if_false, true_and, and_true, not_true_eq_false, not_false_eq_true, false_and, and_false, Option.bind_some, zq_t, zq_f, zq0, zq1, zw_id, x1, c1, c3, hf, g1, g2, r6, hsc.2.1, zx_laidLine hsc, hll.2.1, e1, k1])
end ZCr
