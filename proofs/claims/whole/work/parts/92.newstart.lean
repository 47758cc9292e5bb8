/-! both new: the relation holds at the start -/
section ZNu
variable {d : Nat} {S : zS} {I R : zI} {M X c : Int} {t : Nat}
theorem zn_cl_congr {S' : zS} {R' : zI} (h : zs_cl S R X) (s : ∀ q, q < X + 300 → S' q = S q) (r : ∀ q, q < X + 300 → R' q = R q) : zs_cl S' R' X := by
  obtain ⟨⟨x0, x1⟩, ⟨c0, c1, c2, c3, c4, c5⟩, hta, hse, hhi, hsc, ⟨ims, hims⟩, ⟨shs, hshs⟩, hfr, ⟨fa6, fa7, fas⟩, ⟨ne67, nes, ness⟩⟩ := id h
  have rX := r X (by omega)
  have r6 := r (X + 6) (by omega)
  refine ⟨⟨x0, by rw [s X (by omega)]; exact x1⟩, ⟨by rw [rX]; exact c0, by rw [rX]; exact c1, by rw [rX]; exact c2, by rw [rX]; exact c3, by rw [rX]; exact c4, by rw [rX]; exact c5⟩, zn_ta_congr hta (fun q q1 q2 => s q (by omega)) (r _ (by omega)), ⟨hse.1, by rw [s (X + 4) (by omega)]; exact hse.2⟩, zn_hi_congr hhi (fun q q1 q2 => s q (by omega)) (r _ (by omega)), zn_sc_congr hsc (fun q q1 q2 => s q (by omega)) (fun q q1 q2 => r q (by omega)), ⟨by rw [s (X + 254) (by omega)]; exact ims, fun k k1 k2 => ?_⟩, ⟨by rw [s (X + 255) (by omega)]; exact shs, fun k k1 k2 => ?_⟩, fun f hf => ?_, ⟨by rw [rX]; exact fa6, by rw [rX]; exact fa7, fun k k1 k2 => by rw [r6]; exact fas k k1 k2⟩, ⟨by rw [rX]; exact ne67, fun k k1 k2 => by rw [r6, rX]; exact nes k k1 k2, fun j k j1 jk k2 => by rw [r6]; exact ness j k j1 jk k2⟩⟩
  · obtain ⟨e1, e2⟩ := hims k k1 k2
    exact ⟨by rw [r (X + 254) (by omega)]; exact e1, zn_im_congr e2 (fun q q1 q2 => s q (by omega)) (r _ (by omega))⟩
  · obtain ⟨e1, e2⟩ := hshs k k1 k2
    exact ⟨by rw [r (X + 255) (by omega)]; exact e1, zn_sh_congr e2 (fun q q1 q2 => s q (by omega)) (r _ (by omega))⟩
  · have hlo : f + 8 ≤ X + 300 := by
      unfold zs_fb zs_fa at hf
      omega
    exact zn_fr_congr (hfr f hf) (fun q q1 q2 => s q (by omega)) (fun q q1 q2 => r q (by omega))
theorem zn_call_congr {J R' A : zI} (hc : zs_cl S R X) (r : ∀ q, q < X + 300 → R' q = R q) (i : ∀ q, q < X + 300 → J q = I q) (h : zc_all I R X A) : zc_all J R' X A := by
  have h2 := zc_all_I hc h (fun q _ q2 => i q q2)
  unfold zc_all zc_his at *
  rw [r X (by omega), r (X + 6) (by omega)]
  exact h2
theorem zn_M (h : (S M).1 = 11) (hM : 0 < M) (h0 : ∀ j, I M j = 0) : ∃ S' I' R', zG (d + 2) 152 [.inr (.inr M)] (S, I, R, (M + 1, t)) = some (0, (S', I', R', (M + 17, t + 19432))) ∧ zs_mo S' R' M ∧ zn_first (zr_row I' M) ∧ ∀ q, q < M → S' q = S q ∧ I' q = I q ∧ R' q = R q := by
  obtain ⟨S', I', R', w, e1, e2, ⟨e3, e4, e5, e6, e7, e8, e9⟩, e10⟩ := zn_M0 (d := d) (I := I) (R := R) (t := t) h hM
  have hm := e2
  have f1 : (S' M).1 = 11 := hm.1.2
  have f2 : R' M 26 = M + 14 := by
    have := hm.2.1
    omega
  have f3 : S' (M + 14) = (12, 4) := by
    obtain ⟨-, -, -, -, -, -, -, -, -, -, -, -, -, -, -, g, -⟩ := hm
    exact g
  refine ⟨S', _, R', e1.trans (zn_lanes (d := d + 1) f1 f2 f3 w), e2, ⟨?_, ?_, fun k => ?_, fun k k1 k2 => ?_⟩, fun q hq => ⟨(e10 q hq).1, ?_, (e10 q hq).2.2⟩⟩
  · funext j
    rw [zr_row_q, zu_off (by omega), zu_off (by omega), zu_off (by omega), zu_off (by omega), e3 j]
    rfl
  · rw [zr_row0, zu_off (by omega), zu_off (by omega), zu_off (by omega), zu_off (by omega), e6, e7, e8, e9, e5 4 (by omega), e5 5 (by omega), e5 10 (by omega), e5 12 (by omega), e5 13 (by omega), h0, h0, h0, h0, h0]
    exact ⟨rfl, rfl, rfl, rfl, rfl, rfl, rfl, rfl, rfl⟩
  · rw [zr_row_q, zu_off (by omega), zu_off (by omega), zu_off (by omega), zu_off (by omega), e4]
  · rw [zr_row_q]
    by_cases g3 : k = 3
    · rw [zu_eq ⟨rfl, g3⟩]
    · rw [zu_ne (by omega)]
      by_cases g2 : k = 2
      · rw [zu_eq ⟨rfl, g2⟩]
      · rw [zu_ne (by omega)]
        by_cases g1 : k = 1
        · rw [zu_eq ⟨rfl, g1⟩]
        · rw [zu_ne (by omega), zu_eq ⟨rfl, by omega⟩]
  · rw [zu_off (by omega), zu_off (by omega), zu_off (by omega), zu_off (by omega), (e10 q hq).2.1]
theorem zn_start {x0 : Int} (hc : 0 < c) : ∃ S' I' R' u, zi_run zt_239 (zG (d + 8)) 20000 0 [some (.inr (.inr x0)), none, none, none] [] (S, I, R, (c, t)) = zi_run zt_239 (zG (d + 8)) 19999 18 [some (.inr (.inr x0)), some (.inr (.inr c)), some (.inr (.inr (c + 300))), some (.inl 0)] [] (S', I', R', (c + 317, t + u)) ∧ u < 200000 ∧ zR4 S' I' R' c (c + 300) ∧ ∀ q, q < c → S' q = S q ∧ I' q = I q ∧ R' q = R q := by
  obtain ⟨S1, I1, R1, u, r1, u1, l1, l2, l3⟩ := zn_C (d := d) (S := zn S c 10 0) (I := zn0 I c) (R := zn0 R c) (X := c) (t := t + 10) (by rw [zn_eq rfl]) hc
  have k1 : (zn S c 10 0 c).1 = 10 := by rw [zn_eq rfl]
  obtain ⟨S2, I2, R2, r2, m1, m2, m3⟩ := zn_M (d := d + 6) (S := zn S1 (c + 300) 11 0) (I := zn0 I1 (c + 300)) (R := zn0 R1 (c + 300)) (M := c + 300) (t := t + 10 + u + 29) (by rw [zn_eq rfl]) (by omega) (fun j => zn0_eq rfl)
  have k2 : (zn S1 (c + 300) 11 0 (c + 300)).1 = 11 := by rw [zn_eq rfl]
  have sq : ∀ q, q < c + 300 → S2 q = S1 q := fun q hq => by rw [(m3 q hq).1, zn_ne (by omega)]
  have iq : ∀ q, q < c + 300 → I2 q = I1 q := fun q hq => by rw [(m3 q hq).2.1, zn0_ne (by omega)]
  have rq : ∀ q, q < c + 300 → R2 q = R1 q := fun q hq => by rw [(m3 q hq).2.2, zn0_ne (by omega)]
  have e1 : c + 300 + 17 = c + 317 := by omega
  rw [e1] at r2
  refine ⟨S2, I2, R2, 10 + u + 29 + 19432, ?_, by omega, ⟨zn_cl_congr l1 sq rq, m1, by omega, zn_call_congr l1 rq iq (l2 _ m2)⟩, fun q hq => ⟨?_, ?_, ?_⟩⟩
  · rw [show t + (10 + u + 29 + 19432) = t + 10 + u + 29 + 19432 by omega, zk_239_0]
    ((try simp only [zbd_conv]); simp (disch := first | assumption | omega | trivial) only [↓reduceIte, zbd_some, eq_self, Int.reduceEq, Int.reduceLT, Int.reduceLE, and_self, or_true, true_or, or_false, false_or, if_pos, if_neg, if_true, if_false, true_and, and_true, not_true_eq_false, not_false_eq_true, false_and, and_false, Option.bind_some, zq_t, zq_f, zq0, zq1, zw_id, zn_new, k1, r1, k2, r2])
  · rw [sq q (by omega), (l3 q hq).1, zn_ne (by omega)]
  · rw [iq q (by omega), (l3 q hq).2.1, zn0_ne (by omega)]
  · rw [rq q (by omega), (l3 q hq).2.2, zn0_ne (by omega)]
end ZNu
