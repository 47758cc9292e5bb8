/-! the class: the history, and frames that change places -/
theorem zs_ll_congr {S : zS} {R R' : zI} {a : Int} (h : zs_ll S R a) (hr : R' a = R a) : zs_ll S R' a := by
  unfold zs_ll at *
  rw [hr]; exact h
theorem zs_cl_R {S : zS} {R R' : zI} {X : Int} (h : zs_cl S R X) (hq : ∀ q, q ≠ X → q ≠ X + 6 → R' q = R q) (hX : ∀ j, j ≠ 6 → j ≠ 7 → R' X j = R X j) (hfa : zs_fa X (R' X 6) ∧ zs_fa X (R' X 7) ∧ ∀ k, 0 ≤ k → k < 16 → zs_fa X (R' (X + 6) k)) (hne : R' X 6 ≠ R' X 7 ∧ (∀ k, 0 ≤ k → k < 16 → R' (X + 6) k ≠ R' X 6 ∧ R' (X + 6) k ≠ R' X 7) ∧ ∀ j k, 0 ≤ j → j < k → k < 16 → R' (X + 6) j ≠ R' (X + 6) k) : zs_cl S R' X := by
  obtain ⟨⟨x0, x1⟩, ⟨c0, c1, c2, c3, c4, c5⟩, hta, hse, hhi, hsc, ⟨ims, hims⟩, ⟨shs, hshs⟩, hfr, -, -⟩ := h
  refine ⟨⟨x0, x1⟩, ⟨by rw [hX 0 (by omega) (by omega)]; exact c0, by rw [hX 1 (by omega) (by omega)]; exact c1, by rw [hX 2 (by omega) (by omega)]; exact c2, by rw [hX 3 (by omega) (by omega)]; exact c3, by rw [hX 4 (by omega) (by omega)]; exact c4, by rw [hX 5 (by omega) (by omega)]; exact c5⟩, ?_, hse, ?_, ?_, ⟨ims, fun k k1 k2 => ?_⟩, ⟨shs, fun k k1 k2 => ?_⟩, fun f hf => ?_, hfa, hne⟩
  · unfold zs_ta at *
    rw [hq (X + 1) (by omega) (by omega)]; exact hta
  · unfold zs_hi at *
    rw [hq (X + 5) (by omega) (by omega)]; exact hhi
  · obtain ⟨q1, q2, q3, q4, q5⟩ := hsc
    refine ⟨q1, q2, by rw [hq (X + 135) (by omega) (by omega)]; exact q3, q4, fun l l1 l2 => ?_⟩
    obtain ⟨q6, q7⟩ := q5 l l1 l2
    exact ⟨by rw [hq _ (by omega) (by omega)]; exact q6, zs_ll_congr q7 (hq _ (by omega) (by omega))⟩
  · obtain ⟨q1, q2⟩ := hims k k1 k2
    refine ⟨by rw [hq _ (by omega) (by omega)]; exact q1, ?_⟩
    unfold zs_im at *
    rw [hq (X + 272 + 10 * k) (by omega) (by omega)]; exact q2
  · obtain ⟨q1, q2⟩ := hshs k k1 k2
    refine ⟨by rw [hq _ (by omega) (by omega)]; exact q1, ?_⟩
    unfold zs_sh at *
    rw [hq (X + 292 + 2 * k) (by omega) (by omega)]; exact q2
  · have hb : X + 7 ≤ f := by
      rcases hf with q | q | q
      · exact (zs_fa_lo q).1
      · omega
      · omega
    exact zs_fr_congr (hfr f hf) (hq _ (by omega) (by omega)) (hq _ (by omega) (by omega)) (hq _ (by omega) (by omega))
/-- a page behind n that are done -/
def zt_push (D P : Int → Int) (n : Int) : Int → Int := fun c => if n < 16 then (if 520 * n ≤ c ∧ c < 520 * n + 520 then P (c - 520 * n) else D c) else (if 0 ≤ c ∧ c < 7800 then D (c + 520) else if 7800 ≤ c ∧ c < 8320 then P (c - 7800) else D c)
theorem zt_push_at {D P : Int → Int} {n c : Int} : zt_push D P n c = if n < 16 then (if 520 * n ≤ c ∧ c < 520 * n + 520 then P (c - 520 * n) else D c) else (if 0 ≤ c ∧ c < 7800 then D (c + 520) else if 7800 ≤ c ∧ c < 8320 then P (c - 7800) else D c) := rfl
theorem zt_push_new {D P : Int → Int} {n j : Int} (hn : n < 16) (hj : 0 ≤ j ∧ j < 520) : zt_sl (zt_push D P n) (520 * n) j = P j := by
  show zt_push D P n (520 * n + j) = _
  rw [zt_push_at, if_pos hn, if_pos (by omega)]
  congr 1; omega
theorem zt_push_old {D P : Int → Int} {n k j : Int} (hn : n < 16) (hk : 0 ≤ k ∧ k < n) (hj : 0 ≤ j ∧ j < 520) : zt_sl (zt_push D P n) (520 * k) j = zt_sl D (520 * k) j := by
  show zt_push D P n (520 * k + j) = D (520 * k + j)
  rw [zt_push_at, if_pos hn, if_neg (by omega)]
theorem zt_push_new16 {D P : Int → Int} {j : Int} (hj : 0 ≤ j ∧ j < 520) : zt_sl (zt_push D P 16) (520 * 15) j = P j := by
  show zt_push D P 16 (520 * 15 + j) = _
  rw [zt_push_at, if_neg (by omega), if_neg (by omega), if_pos (by omega)]
  congr 1; omega
theorem zt_push_old16 {D P : Int → Int} {k j : Int} (hk : 0 ≤ k ∧ k < 15) (hj : 0 ≤ j ∧ j < 520) : zt_sl (zt_push D P 16) (520 * k) j = zt_sl D (520 * (k + 1)) j := by
  show zt_push D P 16 (520 * k + j) = D (520 * (k + 1) + j)
  rw [zt_push_at, if_neg (by omega), if_pos (by omega)]
  congr 1; omega
theorem zv_freq_rep {I J : zI} {f g : Int} {P : Int → Int} (h : zv_freq I J g f) (hr : zv_rep I f P) (hw : zw_page P) : zv_rep J g P := by
  obtain ⟨f1, f2, ⟨f3, f4, f5⟩, f6, f7, f8, f9⟩ := h
  obtain ⟨r1, r2, r3, r4, r5, r6, r7⟩ := hr
  obtain ⟨w1, w2, w3, w4, w5, w6, w7, w8⟩ := hw
  have a1 : ∀ z : Int, z + 1 + 1 = z + 2 := fun z => by omega
  have a2 : ∀ z : Int, z + 1 + 2 = z + 3 := fun z => by omega
  have b1 : ∀ z : Int, z + 4 + 1 = z + 5 := fun z => by omega
  have b2 : ∀ z : Int, z + 4 + 2 = z + 6 := fun z => by omega
  have b3 : ∀ z : Int, z + 4 + 3 = z + 7 := fun z => by omega
  rw [a1, a1] at f4
  rw [a2, a2] at f5
  rw [b1, b1] at f7
  rw [b2, b2] at f8
  rw [b3, b3] at f9
  refine ⟨f3.trans r1, fun l l1 l2 => ?_, fun l i l1 l2 i1 i2 => ?_, f6.trans r4, fun k k1 k2 => ?_, f1.trans r6, f2.trans r7⟩
  · rw [f4 l l1 (by omega)]; exact r2 l l1 l2
  · have := w2 l l1 l2
    rw [f5 _ (by omega) (by omega)]; exact r3 l i l1 l2 i1 i2
  · rw [f7 k k1 (by omega), f8 k k1 (by omega), f9 k k1 (by omega)]; exact r5 k k1 k2
section ZHi
variable {d : Nat} {S : zS} {I J R : zI} {T : Int × Nat} {X n v l f c m k x y z r i p w t e : Int} {P : Int → Int} {A : zI}
theorem zx_remember0 (h : zs_cl S R X) (hf : R X 6 = f) (hk : 0 ≤ I (X + 5) 1 ∧ I (X + 5) 1 < 16) : ∃ J, (∀ w, zi_run zt_27 (zG (d + 5)) (w + 1) 18 [some (.inr (.inr (X + 5))), some (.inr (.inr f))] [] (S, I, R, T) = some (0, (S, J, R, T))) ∧ (∀ q, q ≠ X + 5 → (q < R (X + 6) (I (X + 5) 1) ∨ R (X + 6) (I (X + 5) 1) + 8 ≤ q) → J q = I q) ∧ (∀ j, j ≠ 1 → J (X + 5) j = I (X + 5) j) ∧ J (X + 5) 1 = I (X + 5) 1 + 1 ∧ (∀ P, zv_rep I f P → zw_page P → zv_rep J (R (X + 6) (I (X + 5) 1)) P) := by
  obtain ⟨⟨x0, x1⟩, ⟨c0, c1, c2, c3, c4, c5⟩, hta, hse, hhi, hsc, ⟨ims, hims⟩, ⟨shs, hshs⟩, hfr, ⟨fa6, fa7, fas⟩, ⟨ne67, nes, ness⟩⟩ := id h
  obtain ⟨h0, h1, h2, h3⟩ := hhi
  have a6 : X + 5 + 1 = X + 6 := by omega
  rw [a6] at h2 h3
  obtain ⟨n, hn⟩ : ∃ n, n = I (X + 5) 1 := ⟨_, rfl⟩
  rw [← hn] at hk ⊢
  obtain ⟨g, hg⟩ : ∃ g, g = R (X + 6) n := ⟨_, rfl⟩
  have ag := fas n hk.1 hk.2
  have ng := nes n hk.1 hk.2
  rw [hf] at fa6 ng
  rw [← hg] at ag ng ⊢
  have ap := zs_fa_ne ag fa6 ng.1
  have lo := zs_fa_lo ag
  have fg := hfr g (Or.inl ag)
  obtain ⟨J, e1, e2, e3⟩ := zx_FrCopy (d := d + 1) (I := I) (T := T) fg (hfr f (Or.inl fa6)) ap
  have j1 : J (X + 5) 1 = n := by rw [e2 (X + 5) (by omega), hn]
  have gz : ¬ g = 0 := by omega
  refine ⟨zi_up J (X + 5) 1 (n + 1), fun w => ?_, fun q q1 q2 => ?_, fun j hj => ?_, zu_eq ⟨rfl, rfl⟩, fun P p1 p2 => ?_⟩
  · rw [zk_27_18]
    ((try simp only [zbd_conv]); simp (disch := first | assumption | omega | trivial) only [↓reduceIte, zbd_some, eq_self, Int.reduceEq, Int.reduceLT, Int.reduceLE, and_self, or_true, true_or, or_false, false_or, if_pos, if_neg, if_true, if_false, true_and, and_true, not_true_eq_false, not_false_eq_true, false_and, and_false, Option.bind_some, zq_t, zq_f, zq0, zq1, zw_id, h1, h2, h3, hn.symm, hg.symm, gz, fg.2.1, e1, zwr, j1])
  · rw [zu_off q1]; exact e2 q q2
  · rw [zu_ne (by omega), e2 (X + 5) (by omega)]
  · exact zv_rep_congr (zv_freq_rep e3 p1 p2) (fun q q1 q2 => zu_off (by omega))
theorem zc_remember (h : zs_cl S R X) (hf : R X 6 = f) (hA : zc_his I R X A) (hn : zc_now I f A) : ∃ J R' g, zG (d + 6) 27 [.inr (.inr (X + 5)), .inr (.inr f)] (S, I, R, T) = some (0, (S, J, R', T)) ∧ zs_cl S R' X ∧ (∀ q, q ≠ X + 6 → R' q = R q) ∧ (zs_fa X g ∧ g ≠ f ∧ g ≠ R X 7) ∧ (∀ q, q ≠ X + 5 → (q < g ∨ g + 8 ≤ q) → J q = I q) ∧ ∀ A' : zI, A' 0 4 = (if A 0 4 < 16 then A 0 4 + 1 else 16) → A' 0 5 = 0 → A' 3 = zt_push (A 3) (A 1) (A 0 4) → zc_his J R' X A' := by
  obtain ⟨⟨x0, x1⟩, ⟨c0, c1, c2, c3, c4, c5⟩, hta, hse, hhi, hsc, ⟨ims, hims⟩, ⟨shs, hshs⟩, hfr, ⟨fa6, fa7, fas⟩, ⟨ne67, nes, ness⟩⟩ := id h
  obtain ⟨h0, h1, h2, h3⟩ := id hhi
  have a6 : X + 5 + 1 = X + 6 := by omega
  obtain ⟨⟨a1, a2⟩, ⟨a3, a4, a5⟩, a7, a8⟩ := hA
  obtain ⟨n1, n2⟩ := hn
  obtain ⟨I1, hI1⟩ : ∃ I1, I1 = zi_up I (X + 5) 2 0 := ⟨_, rfl⟩
  have i1 : ∀ q, q ≠ X + 5 → I1 q = I q := fun q hq => by rw [hI1, zu_off hq]
  have i51 : I1 (X + 5) 1 = A 0 4 := by rw [hI1, zu_ne (by omega), a1]
  have i52 : I1 (X + 5) 2 = 0 := by rw [hI1, zu_eq ⟨rfl, rfl⟩]
  rw [hf] at fa6
  have lof := zs_fa_lo fa6
  by_cases g16 : A 0 4 < 16
  · obtain ⟨J, e1, e2, e3, e4, e5⟩ := zx_remember0 (d := d) (I := I1) (T := T) h hf (by rw [i51]; exact ⟨a3, g16⟩)
    rw [i51] at e2 e4 e5
    have ag := fas (A 0 4) a3 g16
    have ng := nes (A 0 4) a3 g16
    rw [hf] at ng
    have log := zs_fa_lo ag
    refine ⟨J, R, R (X + 6) (A 0 4), ?_, h, fun _ _ => rfl, ⟨ag, ng.1, ng.2⟩, fun q q1 q2 => (e2 q q1 q2).trans (i1 q q1), fun A' b1 b2 b3 => ?_⟩
    · rw [zm_27]
      ((try simp only [zbd_conv]); simp (disch := first | assumption | omega | trivial) only [↓reduceIte, zbd_some, eq_self, Int.reduceEq, Int.reduceLT, Int.reduceLE, and_self, or_true, true_or, or_false, false_or, if_pos, if_neg, if_true, if_false, true_and, and_true, not_true_eq_false, not_false_eq_true, false_and, and_false, Option.bind_some, zq_t, zq_f, zq0, zq1, zw_id, h1, zwr])
      rw [← hI1]
      ((try simp only [zbd_conv]); simp (disch := first | assumption | omega | trivial) only [↓reduceIte, zbd_some, eq_self, Int.reduceEq, Int.reduceLT, Int.reduceLE, and_self, or_true, true_or, or_false, false_or, if_pos, if_neg, if_true, if_false, true_and, and_true, not_true_eq_false, not_false_eq_true, false_and, and_false, Option.bind_some, zq_t, zq_f, zq0, zq1, zw_id, i51])
      exact e1 1019998
    · rw [if_pos g16] at b1
      refine ⟨⟨by rw [e4, b1], by rw [e3 2 (by omega), i52, b2]⟩, by omega, fun k k1 k2 => ?_, fun j j1 j2 => by omega⟩
      rw [b1] at k2
      rw [b3]
      by_cases gk : k = A 0 4
      · subst gk
        exact zv_rep_page (e5 _ (zv_rep_congr n1 (fun q q1 q2 => i1 q (by omega))) n2) n2 (fun j j1 j2 => zt_push_new g16 ⟨j1, j2⟩)
      · obtain ⟨p1, p2⟩ := a7 k k1 (by omega)
        have ap := zs_fa_ne (fas k k1 (by omega)) ag (ness k (A 0 4) k1 (by omega) g16)
        have lok := zs_fa_lo (fas k k1 (by omega))
        exact zv_rep_page (zv_rep_congr p1 (fun q q1 q2 => (e2 q (by omega) (by omega)).trans (i1 q (by omega)))) p2 (fun j j1 j2 => zt_push_old g16 ⟨k1, by omega⟩ ⟨j1, j2⟩)
  · have g16' : A 0 4 = 16 := by omega
    have dr := zx_dropOldest (d := d + 4) (I := I1) (T := T) hhi (by rw [i51, g16']) (fun k k1 k2 => by rw [a6]; exact (hfr _ (Or.inl (fas k k1 k2))).2.1)
    obtain ⟨R', hR'⟩ : ∃ R', R' = zh_rot R (X + 5) 15 := ⟨_, rfl⟩
    obtain ⟨I2, hI2⟩ : ∃ I2, I2 = zi_up I1 (X + 5) 1 15 := ⟨_, rfl⟩
    rw [← hR', ← hI2] at dr
    have ro : ∀ q, q ≠ X + 6 → R' q = R q := fun q hq => by
      funext j
      rw [hR', zh_rot_at, if_neg (by omega), if_neg (by omega)]
    have rk : ∀ k, 0 ≤ k → k < 15 → R' (X + 6) k = R (X + 6) (k + 1) := fun k k1 k2 => by rw [hR', zh_rot_at, if_pos ⟨by omega, k1, k2⟩]
    have r15 : R' (X + 6) 15 = R (X + 6) 0 := by rw [hR', zh_rot_at, if_neg (by omega), if_pos ⟨by omega, rfl⟩]
    have rr : ∀ k, 0 ≤ k → k < 16 → ∃ k', 0 ≤ k' ∧ k' < 16 ∧ R' (X + 6) k = R (X + 6) k' := fun k k1 k2 => by
      by_cases gk : k < 15
      · exact ⟨k + 1, by omega, by omega, rk k k1 gk⟩
      · exact ⟨0, by omega, by omega, by rw [show k = 15 by omega]; exact r15⟩
    have rX : ∀ j, R' X j = R X j := fun j => by rw [ro X (by omega)]
    have h' : zs_cl S R' X := by
      refine zs_cl_R h (fun q _ q2 => ro q q2) (fun j _ _ => rX j) ⟨by rw [rX, hf]; exact fa6, by rw [rX]; exact fa7, fun k k1 k2 => ?_⟩ ⟨by rw [rX, rX]; exact ne67, fun k k1 k2 => ?_, fun j k j1 jk k2 => ?_⟩
      · obtain ⟨k', q1, q2, q3⟩ := rr k k1 k2
        rw [q3]; exact fas k' q1 q2
      · obtain ⟨k', q1, q2, q3⟩ := rr k k1 k2
        rw [q3, rX, rX]; exact nes k' q1 q2
      · rw [rk j j1 (by omega)]
        by_cases gk : k < 15
        · rw [rk k (by omega) gk]; exact ness (j + 1) (k + 1) (by omega) (by omega) (by omega)
        · rw [show k = 15 by omega, r15]; exact fun q => ness 0 (j + 1) (by omega) (by omega) (by omega) q.symm
    have i2 : ∀ q, q ≠ X + 5 → I2 q = I q := fun q hq => by rw [hI2, zu_off hq, i1 q hq]
    have i251 : I2 (X + 5) 1 = 15 := by rw [hI2, zu_eq ⟨rfl, rfl⟩]
    have i252 : I2 (X + 5) 2 = 0 := by rw [hI2, zu_ne (by omega), i52]
    obtain ⟨J, e1, e2, e3, e4, e5⟩ := zx_remember0 (d := d) (f := f) (I := I2) (T := T) h' (by rw [rX]; exact hf) (by rw [i251]; omega)
    rw [i251, r15] at e2 e5
    rw [i251] at e4
    have ag := fas 0 (by omega) (by omega)
    have ng := nes 0 (by omega) (by omega)
    rw [hf] at ng
    have log := zs_fa_lo ag
    refine ⟨J, R', R (X + 6) 0, ?_, h', ro, ⟨ag, ng.1, ng.2⟩, fun q q1 q2 => (e2 q q1 q2).trans (i2 q q1), fun A' b1 b2 b3 => ?_⟩
    · rw [zm_27]
      ((try simp only [zbd_conv]); simp (disch := first | assumption | omega | trivial) only [↓reduceIte, zbd_some, eq_self, Int.reduceEq, Int.reduceLT, Int.reduceLE, and_self, or_true, true_or, or_false, false_or, if_pos, if_neg, if_true, if_false, true_and, and_true, not_true_eq_false, not_false_eq_true, false_and, and_false, Option.bind_some, zq_t, zq_f, zq0, zq1, zw_id, h1, zwr])
      rw [← hI1]
      ((try simp only [zbd_conv]); simp (disch := first | assumption | omega | trivial) only [↓reduceIte, zbd_some, eq_self, Int.reduceEq, Int.reduceLT, Int.reduceLE, and_self, or_true, true_or, or_false, false_or, if_pos, if_neg, if_true, if_false, true_and, and_true, not_true_eq_false, not_false_eq_true, false_and, and_false, Option.bind_some, zq_t, zq_f, zq0, zq1, zw_id, i51, dr])
      exact e1 1019998
    · rw [if_neg g16] at b1
      rw [g16'] at b3
      refine ⟨⟨by rw [e4, b1]; rfl, by rw [e3 2 (by omega), i252, b2]⟩, by omega, fun k k1 k2 => ?_, fun j j1 j2 => by omega⟩
      rw [b1] at k2
      rw [b3]
      by_cases gk : k = 15
      · subst gk
        rw [r15]
        exact zv_rep_page (e5 _ (zv_rep_congr n1 (fun q q1 q2 => i2 q (by omega))) n2) n2 (fun j j1 j2 => zt_push_new16 ⟨j1, j2⟩)
      · rw [rk k k1 (by omega)]
        obtain ⟨p1, p2⟩ := a7 (k + 1) (by omega) (by omega)
        have ap := zs_fa_ne (fas (k + 1) (by omega) (by omega)) ag (fun q => ness 0 (k + 1) (by omega) (by omega) (by omega) q.symm)
        have lok := zs_fa_lo (fas (k + 1) (by omega) (by omega))
        exact zv_rep_page (zv_rep_congr p1 (fun q q1 q2 => (e2 q (by omega) (by omega)).trans (i2 q (by omega)))) p2 (fun j j1 j2 => zt_push_old16 ⟨k1, by omega⟩ ⟨j1, j2⟩)
end ZHi
