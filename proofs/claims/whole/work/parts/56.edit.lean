/-! edits: what is is remembered, the page is another, both sides settle -/
section ZEd
variable {d : Nat} {S : zS} {I J J1 J2 K K0 K1 R R' : zI} {T : Int × Nat} {X M n v l f c k x y z r i p w t m e b g len : Int} {P Q s : Int → Int}
theorem zs_mo_R (h : zs_mo S R M) (e : R' M = R M) : zs_mo S R' M := by
  unfold zs_mo at *
  rw [e]; exact h
theorem zz_rem (h : zR4 S I R X M) (hf : R X 6 = f) : ∃ J1 R' g, zG (d + 6) 28 [.inr (.inr (X + 5)), .inr (.inr f)] (S, I, R, T) = some (0, (S, J1, R', T)) ∧ zs_cl S R' X ∧ zs_mo S R' M ∧ R' X 6 = f ∧ (zs_fa X g ∧ g ≠ f) ∧ (∀ q, q ≠ X + 5 → (q < g ∨ g + 8 ≤ q) → J1 q = I q) ∧ (∀ A' : zI, A' 0 4 = (if I M 4 < 16 then I M 4 + 1 else 16) → A' 0 5 = 0 → A' 3 = zt_push (I (M + 3)) (I (M + 1)) (I M 4) → zc_his J1 R' X A') ∧ (zv_rep J1 f (I (M + 1)) ∧ zr_se J1 (X + 4)) := by
  obtain ⟨hc, hm, hap, hall⟩ := id h
  have hn := hall.1
  rw [hf] at hn
  obtain ⟨J1, R', g, e1, e2, e3, e4, e5, e6⟩ := zc_remember (d := d) (T := T) hc hf hall.2.2.2.2.2.1 hn
  have fa := zcl_fa6 hc hf
  have lo := zs_fa_lo fa
  have log := zs_fa_lo e4.1
  obtain ⟨-, -, -, hse, -⟩ := zR4_facts h
  rw [zr_row0, zr_row_q, zr_row_q] at e6
  have ap := zs_fa_ne fa e4.1 (fun q => e4.2.1 q.symm)
  refine ⟨J1, R', g, e1, e2, zs_mo_R hm (e3 M (by omega)), by rw [e3 X (by omega), hf], ⟨e4.1, e4.2.1⟩, e5, e6, zv_rep_congr hn.1 (fun q q1 q2 => e5 q (by omega) (by omega)), ?_⟩
  unfold zr_se at *
  rw [e5 (X + 4) (by omega) (by omega)]
  exact hse
theorem zz_edit (h : zR4 S I R X M) (hf : R X 6 = f) (hc' : zs_cl S R' X) (hm' : zs_mo S R' M) (hf' : R' X 6 = f) (hg : zs_fa X g ∧ g ≠ f) (r1 : ∀ q, q ≠ X + 5 → (q < g ∨ g + 8 ≤ q) → J1 q = I q) (r2 : ∀ A' : zI, A' 0 4 = (if I M 4 < 16 then I M 4 + 1 else 16) → A' 0 5 = 0 → A' 3 = zt_push (I (M + 3)) (I (M + 1)) (I M 4) → zc_his J1 R' X A') (j2 : ∀ q, (q < f ∨ f + 8 ≤ q) → J2 q = J1 q) (hw : zw_page P) (hd : zc_done J2 J X f P (I M 6) (I M 7) (I M 8) (I M 9)) (k1 : ∀ q, q ≠ M → q ≠ M + 3 → (q < M + 7 ∨ M + 11 < q) → K1 q = J q) (k1M : ∀ j, j ≠ 4 → j ≠ 5 → j ≠ 22 → j ≠ 23 → K1 M j = J M j) (k14 : K1 M 4 = if I M 4 < 16 then I M 4 + 1 else 16) (k15 : K1 M 5 = 0) (k13 : K1 (M + 3) = zt_push (I (M + 3)) (I (M + 1)) (I M 4)) (k0 : ∀ q, q ≠ M + 1 → q ≠ M + 2 → K0 q = K1 q) (k0P : K0 (M + 1) = P) : ∃ K, zG (d + 6) 205 [.inr (.inr M)] (S, K0, R', T) = some (0, (S, K, R', T)) ∧ zR4 S K R' X M ∧ (∃ v, K (M + 1) = zt_up P 519 v) := by
  obtain ⟨hc, hm, hap, hall⟩ := id h
  obtain ⟨-, hst, hmo, -, -, -, hnum, -⟩ := zR4_facts h
  have fa := zcl_fa6 hc hf
  have lo := zs_fa_lo fa
  have log := zs_fa_lo hg.1
  have jI : ∀ q, q ≠ X + 5 → (q < g ∨ g + 8 ≤ q) → (q < f ∨ f + 8 ≤ q) → J2 q = I q := fun q q1 q2 q3 => (j2 q q3).trans (r1 q q1 q2)
  have jq : ∀ q, X + 300 ≤ q → J q = I q := fun q q1 => by
    obtain ⟨v', c, -, d2, -⟩ := hd
    rw [d2 q (by omega) (by omega) (by omega), jI q (by omega) (by omega) (by omega)]
  have r0 : ∀ j, j ≠ 4 → (j < 22 ∧ j ≠ 5) → K0 M j = I M j := fun j h1 h2 => by
    rw [k0 M (by omega) (by omega), k1M j h1 h2.2 (by omega) (by omega), jq M hap]
  have z0 : ∀ j, j ≠ 4 → (j < 22 ∧ j ≠ 5) → zr_row K0 M 0 j = zr_row I M 0 j := fun j h1 h2 => by rw [zr_row0, zr_row0]; exact r0 j h1 h2
  have rq : ∀ q, (4 ≤ q ∧ (q < 7 ∨ 11 < q)) → zr_row K0 M q = zr_row I M q := fun q q1 => by
    rw [zr_row_q, zr_row_q, k0 _ (by omega) (by omega), k1 _ (by omega) (by omega) (by omega), jq _ (by omega)]
  have X4 : J2 (X + 4) = I (X + 4) := jI _ (by omega) (by omega) (by omega)
  have his : zc_his J1 R' X (zr_row K0 M) := r2 _ (by rw [zr_row0, k0 M (by omega) (by omega)]; exact k14) (by rw [zr_row0, k0 M (by omega) (by omega)]; exact k15) (by rw [zr_row_q, k0 _ (by omega) (by omega)]; exact k13)
  obtain ⟨K, e1, e2, e3, -⟩ := zz_settled (d := d) (T := T) hc' hf' hm' hap hw (J0 := J2) (K0 := K0) hd (fun q q1 => by rw [k0 q (by omega) (by omega), k1 q (by omega) (by omega) (by omega)]) k0P
    (by unfold zr_mo at *; rw [r0 6 (by omega) (by omega), r0 7 (by omega) (by omega), r0 8 (by omega) (by omega), r0 9 (by omega) (by omega)]; exact hmo)
    ⟨r0 6 (by omega) (by omega), r0 7 (by omega) (by omega), r0 8 (by omega) (by omega), r0 9 (by omega) (by omega)⟩ (by rw [X4]; exact hst)
    (by rw [jI X (by omega) (by omega) (by omega), r0 13 (by omega) (by omega)]; exact hnum.2)
    (zc_tap_A (zc_tap_I hall.2.2.2.2.1 (by rw [jI (X + 1) (by omega) (by omega) (by omega)]) (jI (X + 2) (by omega) (by omega) (by omega))) (z0 12 (by omega) (by omega)) (rq 5 (by omega)))
    (zc_his_I his (j2 _ (by omega)) (fun k k1 k2 q q1 q2 => by
      have fk := zcl_fas hc' ⟨k1, k2⟩
      have ne := (hc'.2.2.2.2.2.2.2.2.2.2.2.1 k k1 k2).1
      rw [hf'] at ne
      have ap := zs_fa_ne fk fa ne
      exact j2 q (by omega)))
    (zc_img_A (zc_img_I hall.2.2.2.2.2.2.1 (fun q q1 q2 => jI q (by omega) (by omega) (by omega))) (rq 12 (by omega)) (rq 13 (by omega)))
    (zc_shs_A (zc_shs_I hall.2.2.2.2.2.2.2 (fun q q1 q2 => jI q (by omega) (by omega) (by omega))) (rq 14 (by omega)) (rq 15 (by omega)) (rq 16 (by omega)))
  exact ⟨K, e1, e2, e3⟩
/-- signs come in, as pages -/
theorem zt_insn_step {k : Int} (hl : 0 ≤ l ∧ l < 12) (hi : 0 ≤ i ∧ i ≤ n) (hn : n + k < 40) (hk : 0 ≤ k) : zt_insn (zt_insn P l i k n s) l (i + k) 1 (n + k) (fun _ => s k) = zt_insn P l i (k + 1) n s := by
  funext j
  by_cases a1 : j = 1 + l
  · simp (disch := first | assumption | omega | trivial) only [if_pos, if_neg, if_true, if_false, true_and, and_true, not_true_eq_false, not_false_eq_true, false_and, and_false, Option.bind_some, zq_t, zq_f, zq0, zq1, zw_id, zt_insn_at]
    omega
  · by_cases a2 : j = 519
    · simp (disch := first | assumption | omega | trivial) only [if_pos, if_neg, if_true, if_false, true_and, and_true, not_true_eq_false, not_false_eq_true, false_and, and_false, Option.bind_some, zq_t, zq_f, zq0, zq1, zw_id, zt_insn_at]
      omega
    · by_cases a3 : j = 13 + 40 * l + (i + k)
      · simp (disch := first | assumption | omega | trivial) only [if_pos, if_neg, if_true, if_false, true_and, and_true, not_true_eq_false, not_false_eq_true, false_and, and_false, Option.bind_some, zq_t, zq_f, zq0, zq1, zw_id, zt_insn_at]
        congr 1; omega
      · by_cases a4 : 13 + 40 * l + i ≤ j ∧ j < 13 + 40 * l + i + k
        · simp (disch := first | assumption | omega | trivial) only [if_pos, if_neg, if_true, if_false, true_and, and_true, not_true_eq_false, not_false_eq_true, false_and, and_false, Option.bind_some, zq_t, zq_f, zq0, zq1, zw_id, zt_insn_at]
        · by_cases a5 : 13 + 40 * l + (i + k) + 1 ≤ j ∧ j < 13 + 40 * l + (n + k) + 1
          · simp (disch := first | assumption | omega | trivial) only [if_pos, if_neg, if_true, if_false, true_and, and_true, not_true_eq_false, not_false_eq_true, false_and, and_false, Option.bind_some, zq_t, zq_f, zq0, zq1, zw_id, zt_insn_at]
            congr 1; omega
          · simp (disch := first | assumption | omega | trivial) only [if_pos, if_neg, if_true, if_false, true_and, and_true, not_true_eq_false, not_false_eq_true, false_and, and_false, Option.bind_some, zq_t, zq_f, zq0, zq1, zw_id, zt_insn_at]
theorem zw_insn (hw : zw_page P) (hl : P 518 = l) (hi : P 519 = i) (hlen : P (1 + l) = n) (hn : n + k ≤ 40) (hk : 0 ≤ k) : zw_page (zt_insn P l i k n s) := by
  obtain ⟨w1, w2, w3, w4, w5, w6, w7, w8⟩ := hw
  rw [hl] at w6 w8
  rw [hi] at w7 w8
  rw [hlen] at w8
  have lo : ∀ j, (j ≤ 12 ∧ j ≠ 1 + l ∨ 493 ≤ j ∧ j ≠ 519) → zt_insn P l i k n s j = P j := fun j hj => by
    rw [zt_insn_at, if_neg (by omega), if_neg (by omega), if_neg (by omega), if_neg (by omega)]
  have e1 : zt_insn P l i k n s (1 + l) = n + k := by rw [zt_insn_at, if_pos rfl]
  have e2 : zt_insn P l i k n s 519 = i + k := by rw [zt_insn_at, if_neg (by omega), if_pos rfl]
  have e3 : zt_insn P l i k n s 518 = l := by rw [lo _ (by omega), hl]
  have e0 : zt_insn P l i k n s 0 = P 0 := lo _ (by omega)
  have e4 : zt_insn P l i k n s 493 = P 493 := lo _ (by omega)
  refine ⟨by rw [e0]; exact w1, fun l' l1 l2 => ?_, by rw [e4]; exact w3, fun j j1 j2 => ?_, fun j j' j1 j2 j3 => ?_, by rw [e3, e0]; omega, by rw [e2]; omega, by rw [e2, e3, e1]; omega⟩
  · rw [e0] at l2
    by_cases g : l' = l
    · rw [g, e1]; have := w2 l (by omega) (by omega); omega
    · rw [lo (1 + l') (by omega)]; exact w2 l' l1 l2
  · rw [e4] at j2
    rw [lo (494 + 3 * j) (by omega), lo (495 + 3 * j) (by omega), lo (496 + 3 * j) (by omega), e0]; exact w4 j j1 j2
  · rw [e4] at j3
    rw [lo (494 + 3 * j) (by omega), lo (495 + 3 * j) (by omega), lo (494 + 3 * j') (by omega), lo (495 + 3 * j') (by omega)]; exact w5 j j' j1 j2 j3
theorem zv_ins1 (h : zv_rep I f P) (hw : zw_page P) (hl : P 518 = l) (hi : P 519 = i) (hlen : P (1 + l) = n) (hn : n < 40) : zv_rep (zi_up (zp_ins I (f + 1) l i n c) f 3 (i + 1)) f (zt_insn P l i 1 n (fun _ => c)) := by
  obtain ⟨v1, v2, v3, v4, v5, v6, v7⟩ := h
  obtain ⟨w1, w2, w3, w4, w5, w6, w7, w8⟩ := hw
  rw [hl] at w6 w8
  rw [hi] at w7 w8
  rw [hlen] at w8
  have lo : ∀ j, (j ≤ 12 ∧ j ≠ 1 + l ∨ 493 ≤ j ∧ j ≠ 519) → zt_insn P l i 1 n (fun _ => c) j = P j := fun j hj => by
    rw [zt_insn_at, if_neg (by omega), if_neg (by omega), if_neg (by omega), if_neg (by omega)]
  have e1 : zt_insn P l i 1 n (fun _ => c) (1 + l) = n + 1 := by rw [zt_insn_at, if_pos rfl]
  have e2 : zt_insn P l i 1 n (fun _ => c) 519 = i + 1 := by rw [zt_insn_at, if_neg (by omega), if_pos rfl]
  have pq : ∀ q j, q ≠ f + 2 → q ≠ f + 3 → zp_ins I (f + 1) l i n c q j = I q j := fun q j q1 q2 => by
    unfold zp_ins
    rw [if_neg (by omega), if_neg (by omega), if_neg (by omega)]
  have p2 : ∀ j, zp_ins I (f + 1) l i n c (f + 2) j = if j = l then n + 1 else I (f + 2) j := fun j => by
    unfold zp_ins
    by_cases g : j = l
    · rw [if_neg (by omega), if_neg (by omega), if_pos (by omega), if_pos g]
    · rw [if_neg (by omega), if_neg (by omega), if_neg (by omega), if_neg g]
  have p3 : ∀ j, zp_ins I (f + 1) l i n c (f + 3) j = if j = l * 40 + i then c else if l * 40 + i < j ∧ j ≤ l * 40 + n then I (f + 3) (j - 1) else I (f + 3) j := fun j => by
    unfold zp_ins
    by_cases g : j = l * 40 + i
    · rw [if_pos (by omega), if_pos g]
    · rw [if_neg (by omega), if_neg g]
      by_cases g2 : l * 40 + i < j ∧ j ≤ l * 40 + n
      · rw [if_pos (by omega), if_pos g2]
      · rw [if_neg (by omega), if_neg g2, if_neg (by omega)]
  refine ⟨?_, fun l' l1 l2 => ?_, fun l' k l1 l2 k1 k2 => ?_, ?_, fun k k1 k2 => ?_, ?_, ?_⟩
  · rw [zu_off (by omega), pq _ _ (by omega) (by omega), v1, lo 0 (by omega)]
  · rw [lo 0 (by omega)] at l2
    rw [zu_off (by omega), p2]
    by_cases g : l' = l
    · rw [if_pos g, g, e1]
    · rw [if_neg g, lo (1 + l') (by omega)]; exact v2 l' l1 l2
  · rw [lo 0 (by omega)] at l2
    rw [zu_off (by omega), p3]
    by_cases g : l' = l
    · subst g
      rw [e1] at k2
      by_cases g1 : k = i
      · rw [if_pos (by omega), zt_insn_at, if_neg (by omega), if_neg (by omega), if_pos (by omega)]
      · rw [if_neg (by omega)]
        by_cases g2 : i < k
        · rw [if_pos (by omega), zt_insn_at, if_neg (by omega), if_neg (by omega), if_neg (by omega), if_pos (by omega), show l' * 40 + k - 1 = l' * 40 + (k - 1) by omega, show 13 + 40 * l' + k - 1 = 13 + 40 * l' + (k - 1) by omega]
          exact v3 l' (k - 1) l1 l2 (by omega) (by omega)
        · rw [if_neg (by omega), zt_insn_at, if_neg (by omega), if_neg (by omega), if_neg (by omega), if_neg (by omega)]
          exact v3 l' k l1 l2 k1 (by omega)
    · rw [lo (1 + l') (by omega)] at k2
      have b := w2 l' l1 l2
      rw [if_neg (by omega), if_neg (by omega), zt_insn_at, if_neg (by omega), if_neg (by omega), if_neg (by omega), if_neg (by omega)]
      exact v3 l' k l1 l2 k1 k2
  · rw [zu_off (by omega), pq _ _ (by omega) (by omega), v4, lo 493 (by omega)]
  · rw [lo 493 (by omega)] at k2
    rw [zu_off (show ¬ f + 5 = f by omega), zu_off (show ¬ f + 6 = f by omega), zu_off (show ¬ f + 7 = f by omega), pq (f + 5) k (by omega) (by omega), pq (f + 6) k (by omega) (by omega), pq (f + 7) k (by omega) (by omega), lo (494 + 3 * k) (by omega), lo (495 + 3 * k) (by omega), lo (496 + 3 * k) (by omega)]
    exact v5 k k1 k2
  · rw [zu_ne (by omega), pq _ _ (by omega) (by omega), v6, lo 518 (by omega)]
  · rw [zu_eq ⟨rfl, rfl⟩, e2]
end ZEd
