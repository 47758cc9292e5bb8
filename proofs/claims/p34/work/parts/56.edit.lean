/-! edits: what is is remembered, the page is another, both sides settle -/
section ZEd
variable {d : Nat} {S : zS} {I J J1 J2 K K0 K1 R R' : zI} {T : Int × Nat} {X M n v l f c k x y z r i p w t m e b g len : Int} {P Q s : Int → Int}
/-- signs come in, as pages -/
theorem zt_insn_step {k : Int} (hl : 0 ≤ l ∧ l < 12) (hi : 0 ≤ i ∧ i ≤ n) (hn : n + k < 40) (hk : 0 ≤ k) : zt_insn (zt_insn P l i k n s) l (i + k) 1 (n + k) (fun _ => s k) = zt_insn P l i (k + 1) n s := by
  funext j
  by_cases a1 : j = 1 + l
  · simp (disch := first | assumption | omega | trivial) only [if_pos, if_neg, if_true, if_false, true_and, and_true, not_true_eq_false, not_false_eq_true, false_and, and_false, Option.bind_some, zq_t, zq_f, zq0, zq1, zw_id, zt_insn_at]
    omega
  · by_cases a2 : j = 519
    · simp (disch := first | assumption | omega | trivial) only [if_pos, if_neg, if_true, if_false, true_and, and_true, not_true_eq_false, not_false_eq_true, false_and, and_false, Option.bind_some, zq_t, zq_f, zq0, zq1, zw_id, zt_insn_at]
      omega
    · by_cases a3 : j = 13 + 40 * l + (i + k)
      · simp (disch := first | assumption | omega | trivial) only [if_pos, if_neg, if_true, if_false, true_and, and_true, not_true_eq_false, not_false_eq_true, false_and, and_false, Option.bind_some, zq_t, zq_f, zq0, zq1, zw_id, zt_insn_at]
        congr 1; omega
      · by_cases a4 : 13 + 40 * l + i ≤ j ∧ j < 13 + 40 * l + i + k
        · simp (disch := first | assumption | omega | trivial) only [if_pos, if_neg, if_true, if_false, true_and, and_true, not_true_eq_false, not_false_eq_true, false_and, and_false, Option.bind_some, zq_t, zq_f, zq0, zq1, zw_id, zt_insn_at]
        · by_cases a5 : 13 + 40 * l + (i + k) + 1 ≤ j ∧ j < 13 + 40 * l + (n + k) + 1
          · simp (disch := first | assumption | omega | trivial) only [if_pos, if_neg, if_true, if_false, true_and, and_true, not_true_eq_false, not_false_eq_true, false_and, and_false, Option.bind_some, zq_t, zq_f, zq0, zq1, zw_id, zt_insn_at]
            congr 1; omega
          · simp (disch := first | assumption | omega | trivial) only [if_pos, if_neg, if_true, if_false, true_and, and_true, not_true_eq_false, not_false_eq_true, false_and, and_false, Option.bind_some, zq_t, zq_f, zq0, zq1, zw_id, zt_insn_at]
theorem zw_insn (hw : zw_page P) (hl : P 518 = l) (hi : P 519 = i) (hlen : P (1 + l) = n) (hn : n + k ≤ 40) (hk : 0 ≤ k) : zw_page (zt_insn P l i k n s) := by
  obtain ⟨w1, w2, w3, w4, w5, w6, w7, w8⟩ := hw
  rw [hl] at w6 w8
  rw [hi] at w7 w8
  rw [hlen] at w8
  have lo : ∀ j, (j ≤ 12 ∧ j ≠ 1 + l ∨ 493 ≤ j ∧ j ≠ 519) → zt_insn P l i k n s j = P j := fun j hj => by
    rw [zt_insn_at, if_neg (by omega), if_neg (by omega), if_neg (by omega), if_neg (by omega)]
  have e1 : zt_insn P l i k n s (1 + l) = n + k := by rw [zt_insn_at, if_pos rfl]
  have e2 : zt_insn P l i k n s 519 = i + k := by rw [zt_insn_at, if_neg (by omega), if_pos rfl]
  have e3 : zt_insn P l i k n s 518 = l := by rw [lo _ (by omega), hl]
  have e0 : zt_insn P l i k n s 0 = P 0 := lo _ (by omega)
  have e4 : zt_insn P l i k n s 493 = P 493 := lo _ (by omega)
  refine ⟨by rw [e0]; exact w1, fun l' l1 l2 => ?_, by rw [e4]; exact w3, fun j j1 j2 => ?_, fun j j' j1 j2 j3 => ?_, by rw [e3, e0]; omega, by rw [e2]; omega, by rw [e2, e3, e1]; omega⟩
  · rw [e0] at l2
    by_cases g : l' = l
    · rw [g, e1]; have := w2 l (by omega) (by omega); omega
    · rw [lo (1 + l') (by omega)]; exact w2 l' l1 l2
  · rw [e4] at j2
    rw [lo (494 + 3 * j) (by omega), lo (495 + 3 * j) (by omega), lo (496 + 3 * j) (by omega), e0]; exact w4 j j1 j2
  · rw [e4] at j3
    rw [lo (494 + 3 * j) (by omega), lo (495 + 3 * j) (by omega), lo (494 + 3 * j') (by omega), lo (495 + 3 * j') (by omega)]; exact w5 j j' j1 j2 j3
theorem zv_ins1 (h : zv_rep I f P) (hw : zw_page P) (hl : P 518 = l) (hi : P 519 = i) (hlen : P (1 + l) = n) (hn : n < 40) : zv_rep (zi_up (zp_ins I (f + 1) l i n c) f 3 (i + 1)) f (zt_insn P l i 1 n (fun _ => c)) := by
  obtain ⟨v1, v2, v3, v4, v5, v6, v7⟩ := h
  obtain ⟨w1, w2, w3, w4, w5, w6, w7, w8⟩ := hw
  rw [hl] at w6 w8
  rw [hi] at w7 w8
  rw [hlen] at w8
  have lo : ∀ j, (j ≤ 12 ∧ j ≠ 1 + l ∨ 493 ≤ j ∧ j ≠ 519) → zt_insn P l i 1 n (fun _ => c) j = P j := fun j hj => by
    rw [zt_insn_at, if_neg (by omega), if_neg (by omega), if_neg (by omega), if_neg (by omega)]
  have e1 : zt_insn P l i 1 n (fun _ => c) (1 + l) = n + 1 := by rw [zt_insn_at, if_pos rfl]
  have e2 : zt_insn P l i 1 n (fun _ => c) 519 = i + 1 := by rw [zt_insn_at, if_neg (by omega), if_pos rfl]
  have pq : ∀ q j, q ≠ f + 2 → q ≠ f + 3 → zp_ins I (f + 1) l i n c q j = I q j := fun q j q1 q2 => by
    unfold zp_ins
    rw [if_neg (by omega), if_neg (by omega), if_neg (by omega)]
  have p2 : ∀ j, zp_ins I (f + 1) l i n c (f + 2) j = if j = l then n + 1 else I (f + 2) j := fun j => by
    unfold zp_ins
    by_cases g : j = l
    · rw [if_neg (by omega), if_neg (by omega), if_pos (by omega), if_pos g]
    · rw [if_neg (by omega), if_neg (by omega), if_neg (by omega), if_neg g]
  have p3 : ∀ j, zp_ins I (f + 1) l i n c (f + 3) j = if j = l * 40 + i then c else if l * 40 + i < j ∧ j ≤ l * 40 + n then I (f + 3) (j - 1) else I (f + 3) j := fun j => by
    unfold zp_ins
    by_cases g : j = l * 40 + i
    · rw [if_pos (by omega), if_pos g]
    · rw [if_neg (by omega), if_neg g]
      by_cases g2 : l * 40 + i < j ∧ j ≤ l * 40 + n
      · rw [if_pos (by omega), if_pos g2]
      · rw [if_neg (by omega), if_neg g2, if_neg (by omega)]
  refine ⟨?_, fun l' l1 l2 => ?_, fun l' k l1 l2 k1 k2 => ?_, ?_, fun k k1 k2 => ?_, ?_, ?_⟩
  · rw [zu_off (by omega), pq _ _ (by omega) (by omega), v1, lo 0 (by omega)]
  · rw [lo 0 (by omega)] at l2
    rw [zu_off (by omega), p2]
    by_cases g : l' = l
    · rw [if_pos g, g, e1]
    · rw [if_neg g, lo (1 + l') (by omega)]; exact v2 l' l1 l2
  · rw [lo 0 (by omega)] at l2
    rw [zu_off (by omega), p3]
    by_cases g : l' = l
    · subst g
      rw [e1] at k2
      by_cases g1 : k = i
      · rw [if_pos (by omega), zt_insn_at, if_neg (by omega), if_neg (by omega), if_pos (by omega)]
      · rw [if_neg (by omega)]
        by_cases g2 : i < k
        · rw [if_pos (by omega), zt_insn_at, if_neg (by omega), if_neg (by omega), if_neg (by omega), if_pos (by omega), show l' * 40 + k - 1 = l' * 40 + (k - 1) by omega, show 13 + 40 * l' + k - 1 = 13 + 40 * l' + (k - 1) by omega]
          exact v3 l' (k - 1) l1 l2 (by omega) (by omega)
        · rw [if_neg (by omega), zt_insn_at, if_neg (by omega), if_neg (by omega), if_neg (by omega), if_neg (by omega)]
          exact v3 l' k l1 l2 k1 (by omega)
    · rw [lo (1 + l') (by omega)] at k2
      have b := w2 l' l1 l2
      rw [if_neg (by omega), if_neg (by omega), zt_insn_at, if_neg (by omega), if_neg (by omega), if_neg (by omega), if_neg (by omega)]
      exact v3 l' k l1 l2 k1 k2
  · rw [zu_off (by omega), pq _ _ (by omega) (by omega), v4, lo 493 (by omega)]
  · rw [lo 493 (by omega)] at k2
    rw [zu_off (show ¬ f + 5 = f by omega), zu_off (show ¬ f + 6 = f by omega), zu_off (show ¬ f + 7 = f by omega), pq (f + 5) k (by omega) (by omega), pq (f + 6) k (by omega) (by omega), pq (f + 7) k (by omega) (by omega), lo (494 + 3 * k) (by omega), lo (495 + 3 * k) (by omega), lo (496 + 3 * k) (by omega)]
    exact v5 k k1 k2
  · rw [zu_ne (by omega), pq _ _ (by omega) (by omega), v6, lo 518 (by omega)]
  · rw [zu_eq ⟨rfl, rfl⟩, e2]
end ZEd
