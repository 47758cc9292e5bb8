/-! a line is split -/
section ZSp
variable {d : Nat} {S : zS} {I J J1 J2 K K0 K1 R R' : zI} {T : Int × Nat} {X M n v l f c k x y z r i p w t m e b g len N : Int} {P Q s : Int → Int}
theorem zt_spl_hi {j : Int} (hl : 0 ≤ l ∧ l < m ∧ m < 12) (hi : 0 ≤ i ∧ i ≤ n ∧ n ≤ 40) (hj : 493 ≤ j) : zt_sp2 (zt_up (zt_sps P l m) 0 (m + 1)) l i n j = P j := by
  unfold zt_sp2
  simp (disch := first | assumption | omega | trivial) only [if_pos, if_neg, if_true, if_false, true_and, and_true, not_true_eq_false, not_false_eq_true, false_and, and_false, Option.bind_some, zq_t, zq_f, zq0, zq1, zw_id, zt_up_ne, zt_spm_at, zt_sps_at]
theorem zq_spl (hl : 0 ≤ l ∧ l < m ∧ m < 12) (hi : 0 ≤ i ∧ i ≤ n ∧ n ≤ 40) (hN : 0 ≤ N ∧ N ≤ 8) (hQ : Q = zt_spl P l i n m N) : Q 0 = m + 1 ∧ (∀ r, 0 ≤ r → r ≤ m → Q (1 + r) = if r < l then P (1 + r) else if r = l then i else if r = l + 1 then n - i else P r) ∧ (∀ r k, 0 ≤ r → r ≤ m → 0 ≤ k → k < 40 → (r = l + 1 → k < n - i) → Q (13 + 40 * r + k) = if r ≤ l then P (13 + 40 * r + k) else if r = l + 1 then P (13 + 40 * l + (i + k)) else P (13 + 40 * (r - 1) + k)) ∧ Q 493 = P 493 ∧ (∀ k, 0 ≤ k → k < N → Q (494 + 3 * k) = (if l < P (494 + 3 * k) then P (494 + 3 * k) + 1 else P (494 + 3 * k)) ∧ Q (495 + 3 * k) = (if l ≤ P (495 + 3 * k) then P (495 + 3 * k) + 1 else P (495 + 3 * k)) ∧ Q (496 + 3 * k) = P (496 + 3 * k)) ∧ Q 518 = l + 1 ∧ Q 519 = 0 := by
  subst hQ
  have lo : ∀ j, j < 493 → zt_spl P l i n m N j = zt_sp2 (zt_up (zt_sps P l m) 0 (m + 1)) l i n j := fun j hj => by
    unfold zt_spl
    rw [zt_up_ne (by omega), zt_up_ne (by omega), zt_spk_off (by omega)]
  refine ⟨?_, fun r r1 r2 => ?_, fun r k r1 r2 k1 k2 k3 => ?_, ?_, fun k k1 k2 => ?_, ?_, ?_⟩
  · rw [lo _ (by omega)]
    unfold zt_sp2
    simp (disch := first | assumption | omega | trivial) only [if_pos, if_neg, if_true, if_false, true_and, and_true, not_true_eq_false, not_false_eq_true, false_and, and_false, Option.bind_some, zq_t, zq_f, zq0, zq1, zw_id, zt_up_ne, zt_spm_at, zt_up_eq]
  · rw [lo _ (by omega)]
    unfold zt_sp2
    by_cases a1 : r < l
    · rw [if_pos a1]
      simp (disch := first | assumption | omega | trivial) only [if_pos, if_neg, if_true, if_false, true_and, and_true, not_true_eq_false, not_false_eq_true, false_and, and_false, Option.bind_some, zq_t, zq_f, zq0, zq1, zw_id, zt_up_ne, zt_spm_at, zt_sps_at]
    · by_cases a2 : r = l
      · rw [if_neg a1, if_pos a2, zt_up_eq (by omega)]
      · by_cases a3 : r = l + 1
        · rw [if_neg a1, if_neg a2, if_pos a3, zt_up_ne (by omega), zt_up_eq (by omega)]
        · rw [if_neg a1, if_neg a2, if_neg a3]
          simp (disch := first | assumption | omega | trivial) only [if_pos, if_neg, if_true, if_false, true_and, and_true, not_true_eq_false, not_false_eq_true, false_and, and_false, Option.bind_some, zq_t, zq_f, zq0, zq1, zw_id, zt_up_ne, zt_spm_at, zt_sps_at]
          congr 1; omega
  · rw [lo _ (by omega)]
    unfold zt_sp2
    by_cases a1 : r ≤ l
    · rw [if_pos a1]
      simp (disch := first | assumption | omega | trivial) only [if_pos, if_neg, if_true, if_false, true_and, and_true, not_true_eq_false, not_false_eq_true, false_and, and_false, Option.bind_some, zq_t, zq_f, zq0, zq1, zw_id, zt_up_ne, zt_spm_at, zt_sps_at]
    · by_cases a3 : r = l + 1
      · have := k3 a3
        rw [if_neg a1, if_pos a3]
        simp (disch := first | assumption | omega | trivial) only [if_pos, if_neg, if_true, if_false, true_and, and_true, not_true_eq_false, not_false_eq_true, false_and, and_false, Option.bind_some, zq_t, zq_f, zq0, zq1, zw_id, zt_up_ne, zt_spm_at, zt_sps_at]
        congr 1; omega
      · rw [if_neg a1, if_neg a3]
        simp (disch := first | assumption | omega | trivial) only [if_pos, if_neg, if_true, if_false, true_and, and_true, not_true_eq_false, not_false_eq_true, false_and, and_false, Option.bind_some, zq_t, zq_f, zq0, zq1, zw_id, zt_up_ne, zt_spm_at, zt_sps_at]
        congr 1; omega
  · unfold zt_spl
    rw [zt_up_ne (by omega), zt_up_ne (by omega), zt_spk_off (by omega), zt_spl_hi hl hi (by omega)]
  · unfold zt_spl
    refine ⟨?_, ?_, ?_⟩
    · rw [zt_up_ne (by omega), zt_up_ne (by omega), zt_spk_at, zt_spl_hi hl hi (by omega)]
      by_cases g : l < P (494 + 3 * k)
      · rw [if_pos (by omega), if_pos g]
      · rw [if_neg (by omega), if_neg (by omega), if_neg g]
    · rw [zt_up_ne (by omega), zt_up_ne (by omega), zt_spk_at, zt_spl_hi hl hi (by omega)]
      by_cases g : l ≤ P (495 + 3 * k)
      · rw [if_neg (by omega), if_pos (by omega), if_pos g]
      · rw [if_neg (by omega), if_neg (by omega), if_neg g]
    · rw [zt_up_ne (by omega), zt_up_ne (by omega), zt_spk_at, zt_spl_hi hl hi (by omega)]
      rw [if_neg (by omega), if_neg (by omega)]
  · unfold zt_spl
    rw [zt_up_ne (by omega), zt_up_eq rfl]
  · unfold zt_spl
    rw [zt_up_eq rfl]
theorem zw_spl (hw : zw_page P) (hm0 : P 0 = m) (hn : P (1 + l) = n) (hN : P 493 = N) (hl : 0 ≤ l ∧ l < m ∧ m < 12) (hi : 0 ≤ i ∧ i ≤ n ∧ n ≤ 40) (hN2 : 0 ≤ N ∧ N ≤ 8) (hQ : Q = zt_spl P l i n m N) : zw_page Q := by
  obtain ⟨q0, q1, -, q3, q4, q5, q6⟩ := zq_spl hl hi hN2 hQ
  obtain ⟨w1, w2, w3, w4, w5, w6, w7, w8⟩ := hw
  rw [hm0] at w1 w2 w4
  rw [hN] at w3 w4 w5 q3
  refine ⟨by omega, fun r r1 r2 => ?_, by omega, fun k k1 k2 => ?_, fun j k j1 j2 j3 => ?_, by omega, by omega, ?_⟩
  · rw [q1 r r1 (by omega)]
    by_cases a1 : r < l
    · rw [if_pos a1]; exact w2 r r1 (by omega)
    · by_cases a2 : r = l
      · rw [if_neg a1, if_pos a2]; omega
      · by_cases a3 : r = l + 1
        · rw [if_neg a1, if_neg a2, if_pos a3]; omega
        · rw [if_neg a1, if_neg a2, if_neg a3]
          have := w2 (r - 1) (by omega) (by omega)
          rw [show 1 + (r - 1) = r by omega] at this
          exact this
  · obtain ⟨e1, e2, e3⟩ := q4 k k1 (by omega)
    have b := w4 k k1 (by omega)
    rw [e1, e2, e3, q0]
    by_cases g1 : l < P (494 + 3 * k) <;> by_cases g2 : l ≤ P (495 + 3 * k) <;> first | rw [if_pos g1] | rw [if_neg g1] <;> first | (rw [if_pos g2]; omega) | (rw [if_neg g2]; omega) <;> skip
    all_goals omega
  · obtain ⟨e1, e2, -⟩ := q4 j j1 (by omega)
    obtain ⟨e1', e2', -⟩ := q4 k (by omega) (by omega)
    have b := w5 j k j1 j2 (by omega)
    have b1 := w4 j j1 (by omega)
    have b2 := w4 k (by omega) (by omega)
    rw [e1, e2, e1', e2']
    unfold zf_nest at b ⊢
    by_cases g1 : l < P (494 + 3 * j) <;> by_cases g2 : l ≤ P (495 + 3 * j) <;> by_cases g3 : l < P (494 + 3 * k) <;> by_cases g4 : l ≤ P (495 + 3 * k) <;> simp (disch := first | assumption | omega | trivial) only [if_pos, if_neg, if_true, if_false, true_and, and_true, not_true_eq_false, not_false_eq_true, false_and, and_false, Option.bind_some, zq_t, zq_f, zq0, zq1, zw_id] <;> omega
  · rw [q6, q5, q1 (l + 1) (by omega) (by omega), if_neg (by omega), if_neg (by omega), if_pos rfl]; omega
theorem zv_spl (h : zv_rep I f P) (hw : zw_page P) (hm0 : P 0 = m) (hn : P (1 + l) = n) (hN : P 493 = N) (hl : 0 ≤ l ∧ l < m ∧ m < 12) (hi : 0 ≤ i ∧ i ≤ n ∧ n ≤ 40) (hN2 : 0 ≤ N ∧ N ≤ 8) (hQ : Q = zt_spl P l i n m N) {Jd : zI} (hd : zv_div I Jd (f + 1) l i m) : zv_rep (zi_up (zi_up (zp_fsp Jd (f + 4) l N) f 2 (l + 1)) f 3 0) f Q := by
  obtain ⟨q0, q1, q2, q3, q4, q5, q6⟩ := zq_spl hl hi hN2 hQ
  obtain ⟨w1, w2, w3, w4, w5, w6, w7, w8⟩ := hw
  obtain ⟨v1, v2, v3, v4, v5, v6, v7⟩ := h
  obtain ⟨d1, d2, d3, d4⟩ := hd
  rw [hm0] at w1 w2 w4 v2 v3
  rw [hN] at w3 w4 w5 q3 v4 v5
  have e2 : f + 1 + 1 = f + 2 := by omega
  have e3 : f + 1 + 2 = f + 3 := by omega
  have fs : ∀ q, q ≠ f + 5 → q ≠ f + 6 → zp_fsp Jd (f + 4) l N q = Jd q := fun q h1 h2 => by
    funext j
    rw [zp_fsp_at, if_neg (by omega), if_neg (by omega)]
  have dq : ∀ q, (q < f + 1 ∨ f + 4 ≤ q) → Jd q = I q := fun q hq => d1 q (by omega)
  rw [e2] at d3 d4
  rw [e3] at d4
  have vl : I (f + 2) l = n := by rw [v2 l (by omega) (by omega), hn]
  have lens : ∀ r, 0 ≤ r → r ≤ m → Jd (f + 2) r = Q (1 + r) := fun r r1 r2 => by
    rw [d3 r r1 r2, q1 r r1 r2]
    by_cases a1 : r < l
    · rw [if_pos a1, if_pos a1]; exact v2 r r1 (by omega)
    · by_cases a2 : r = l
      · rw [if_neg a1, if_neg a1, if_pos a2, if_pos a2]
      · by_cases a3 : r = l + 1
        · rw [if_neg a1, if_neg a1, if_neg a2, if_neg a2, if_pos a3, if_pos a3, vl]
        · rw [if_neg a1, if_neg a1, if_neg a2, if_neg a2, if_neg a3, if_neg a3, v2 (r - 1) (by omega) (by omega)]
          congr 1; omega
  refine ⟨?_, fun r r1 r2 => ?_, fun r k r1 r2 k1 k2 => ?_, ?_, fun k k1 k2 => ?_, ?_, ?_⟩
  · rw [zu_off (by omega), zu_off (by omega), fs _ (by omega) (by omega), d2, q0]
  · rw [q0] at r2
    rw [zu_off (by omega), zu_off (by omega), fs _ (by omega) (by omega)]
    exact lens r r1 (by omega)
  · rw [q0] at r2
    rw [zu_off (by omega), zu_off (by omega), fs _ (by omega) (by omega)]
    rw [← lens r r1 (by omega)] at k2
    have k2' := k2
    rw [d3 r r1 (by omega)] at k2'
    have b40 : k < 40 ∧ (r = l + 1 → k < n - i) ∧ (r < l → k < P (1 + r)) ∧ (r = l → k < n) ∧ (l + 1 < r → k < P (1 + (r - 1))) := by
      by_cases a1 : r < l
      · rw [if_pos a1, v2 r r1 (by omega)] at k2'
        have := w2 r r1 (by omega)
        omega
      · by_cases a2 : r = l
        · rw [if_neg a1, if_pos a2] at k2'
          omega
        · by_cases a3 : r = l + 1
          · rw [if_neg a1, if_neg a2, if_pos a3, vl] at k2'
            omega
          · rw [if_neg a1, if_neg a2, if_neg a3, v2 (r - 1) (by omega) (by omega)] at k2'
            have := w2 (r - 1) (by omega) (by omega)
            omega
    obtain ⟨b1, b2, b3, b4, b5⟩ := b40
    rw [d4 r k r1 (by omega) k1 k2, q2 r k r1 (by omega) k1 b1 b2]
    by_cases a1 : r ≤ l
    · rw [if_pos a1, if_pos a1]
      refine v3 r k r1 (by omega) k1 ?_
      by_cases a2 : r = l
      · have := b4 a2; rw [a2, hn]; exact this
      · exact b3 (by omega)
    · rw [if_neg a1, if_neg a1]
      by_cases a3 : r = l + 1
      · have := b2 a3
        rw [if_pos a3, if_pos a3]
        exact v3 l (i + k) (by omega) (by omega) (by omega) (by rw [hn]; omega)
      · rw [if_neg a3, if_neg a3]
        exact v3 (r - 1) k (by omega) (by omega) k1 (b5 (by omega))
  · rw [zu_off (by omega), zu_off (by omega), fs _ (by omega) (by omega), dq _ (by omega), v4, q3]
  · rw [q3] at k2
    obtain ⟨u1, u2, u3⟩ := v5 k k1 k2
    obtain ⟨e1, e2, e3⟩ := q4 k k1 k2
    have j5 : Jd (f + 4 + 1) k = P (494 + 3 * k) := by rw [dq _ (by omega), show f + 4 + 1 = f + 5 by omega, u1]
    have j6 : Jd (f + 4 + 2) k = P (495 + 3 * k) := by rw [dq _ (by omega), show f + 4 + 2 = f + 6 by omega, u2]
    refine ⟨?_, ?_, ?_⟩
    · rw [zu_off (by omega), zu_off (by omega), zp_fsp_at, j5, j6, e1]
      by_cases g : l < P (494 + 3 * k)
      · rw [if_pos (by omega), if_pos g]
      · rw [if_neg (by omega), if_neg (by omega), if_neg g, dq _ (by omega), u1]
    · rw [zu_off (by omega), zu_off (by omega), zp_fsp_at, j5, j6, e2]
      by_cases g : l ≤ P (495 + 3 * k)
      · rw [if_neg (by omega), if_pos (by omega), if_pos g]
      · rw [if_neg (by omega), if_neg (by omega), if_neg g, dq _ (by omega), u2]
    · rw [zu_off (by omega), zu_off (by omega), fs _ (by omega) (by omega), dq _ (by omega), u3, e3]
  · rw [zu_ne (by omega), zu_eq ⟨rfl, rfl⟩, q5]
  · rw [zu_eq ⟨rfl, rfl⟩, q6]
end ZSp
