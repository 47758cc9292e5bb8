/-! a fold is taken off -/
section ZFu
variable {d : Nat} {S : zS} {I J J1 J2 K K0 K1 R R' : zI} {T : Int × Nat} {X M n v l f c k x y z r i p w t m e b g len N o : Int} {P Q s : Int → Int}
def zt_fdk (P : Int → Int) (k b c : Int) : Int → Int := fun j => if j = 493 then b else if 494 + 3 * k ≤ j ∧ j < c then P (j + 3) else P j
theorem zt_fdk_at {j : Int} : zt_fdk P k b c j = if j = 493 then b else if 494 + 3 * k ≤ j ∧ j < c then P (j + 3) else P j := rfl
theorem zt_fdk_lo {j : Int} (hk : 0 ≤ k) (hj : j < 493 ∨ (493 < j ∧ j < 494 + 3 * k) ∨ (493 < j ∧ c ≤ j)) : zt_fdk P k b c j = P j := by
  rw [zt_fdk_at, if_neg (by omega), if_neg (by omega)]
theorem zt_fdk_hi {j q : Int} (hq : 494 ≤ q ∧ q ≤ 496) (hk : 0 ≤ k) (hj : k ≤ j ∧ j < b) : zt_fdk P k b (494 + 3 * b) (q + 3 * j) = P (q + 3 * (j + 1)) := by
  rw [zt_fdk_at, if_neg (by omega), if_pos (by omega)]
  congr 1; omega
theorem zw_fdr (hw : zw_page P) (hN : P 493 = N) (hk : 0 ≤ k ∧ k < N) (hb : b = N - 1) : zw_page (zt_fdk P k b (494 + 3 * b)) := by
  obtain ⟨w1, w2, w3, w4, w5, w6, w7, w8⟩ := hw
  rw [hN] at w3 w4 w5
  have lo : ∀ j, (j < 493 ∨ 518 ≤ j) → zt_fdk P k b (494 + 3 * b) j = P j := fun j hj => zt_fdk_lo hk.1 (by omega)
  have eN : zt_fdk P k b (494 + 3 * b) 493 = b := by rw [zt_fdk_at, if_pos rfl]
  have mp : ∀ j, 0 ≤ j → j < b → ∃ j', (0 ≤ j' ∧ j' < N) ∧ (j' = if j < k then j else j + 1) ∧ zt_fdk P k b (494 + 3 * b) (494 + 3 * j) = P (494 + 3 * j') ∧ zt_fdk P k b (494 + 3 * b) (495 + 3 * j) = P (495 + 3 * j') ∧ zt_fdk P k b (494 + 3 * b) (496 + 3 * j) = P (496 + 3 * j') := fun j j1 j2 => by
    by_cases g : j < k
    · exact ⟨j, by omega, by rw [if_pos g], zt_fdk_lo hk.1 (by omega), zt_fdk_lo hk.1 (by omega), zt_fdk_lo hk.1 (by omega)⟩
    · exact ⟨j + 1, by omega, by rw [if_neg g], zt_fdk_hi (by omega) hk.1 (by omega), zt_fdk_hi (by omega) hk.1 (by omega), zt_fdk_hi (by omega) hk.1 (by omega)⟩
  refine ⟨by rw [lo 0 (by omega)]; exact w1, fun l l1 l2 => ?_, by rw [eN]; omega, fun j j1 j2 => ?_, fun j j' j1 j2 j3 => ?_, by rw [lo 518 (by omega), lo 0 (by omega)]; exact w6, by rw [lo 519 (by omega)]; exact w7, by rw [lo 519 (by omega), lo 518 (by omega), lo _ (by omega)]; exact w8⟩
  · rw [lo 0 (by omega)] at l2
    rw [lo (1 + l) (by omega)]
    exact w2 l l1 l2
  · rw [eN] at j2
    obtain ⟨j', a1, -, a3, a4, a5⟩ := mp j j1 j2
    rw [a3, a4, a5, lo 0 (by omega)]
    exact w4 j' a1.1 a1.2
  · rw [eN] at j3
    obtain ⟨i, a1, a2, a3, a4, -⟩ := mp j j1 (by omega)
    obtain ⟨i', b1, b2, b3, b4, -⟩ := mp j' (by omega) j3
    rw [a3, a4, b3, b4]
    refine w5 i i' a1.1 ?_ b1.2
    by_cases g1 : j < k <;> by_cases g2 : j' < k <;> simp (disch := first | assumption | omega | trivial) only [if_pos, if_neg, if_true, if_false, true_and, and_true, not_true_eq_false, not_false_eq_true, false_and, and_false, Option.bind_some, zq_t, zq_f, zq0, zq1, zw_id] at a2 <;> simp (disch := first | assumption | omega | trivial) only [if_pos, if_neg, if_true, if_false, true_and, and_true, not_true_eq_false, not_false_eq_true, false_and, and_false, Option.bind_some, zq_t, zq_f, zq0, zq1, zw_id] at b2 <;> omega
theorem zv_fdr (h : zv_rep I f P) (hw : zw_page P) (hN : P 493 = N) (hk : 0 ≤ k ∧ k < N) (hb : b = N - 1) : zv_rep (zi_up (zp_fdr I (f + 4) k b) (f + 4) 0 b) f (zt_fdk P k b (494 + 3 * b)) := by
  obtain ⟨w1, w2, w3, w4, w5, w6, w7, w8⟩ := hw
  obtain ⟨v1, v2, v3, v4, v5, v6, v7⟩ := h
  rw [hN] at w3 v4 v5
  have lo : ∀ j, (j < 493 ∨ 518 ≤ j) → zt_fdk P k b (494 + 3 * b) j = P j := fun j hj => zt_fdk_lo hk.1 (by omega)
  have eN : zt_fdk P k b (494 + 3 * b) 493 = b := by rw [zt_fdk_at, if_pos rfl]
  have jq : ∀ q, q < f + 4 → zi_up (zp_fdr I (f + 4) k b) (f + 4) 0 b q = I q := fun q hq => by
    rw [zu_off (by omega)]
    funext j
    rw [zp_fdr_at, if_neg (by omega)]
  have jh : ∀ q j, f + 5 ≤ q → q ≤ f + 7 → zi_up (zp_fdr I (f + 4) k b) (f + 4) 0 b q j = if k ≤ j ∧ j < b then I q (j + 1) else I q j := fun q j h1 h2 => by
    rw [zu_off (by omega), zp_fdr_at]
    by_cases g : k ≤ j ∧ j < b
    · rw [if_pos (by omega), if_pos g]
    · rw [if_neg (by omega), if_neg g]
  refine ⟨by rw [jq _ (by omega), lo 0 (by omega)]; exact v1, fun l l1 l2 => ?_, fun l i l1 l2 i1 i2 => ?_, by rw [zu_eq ⟨rfl, rfl⟩, eN], fun j j1 j2 => ?_, by rw [jq _ (by omega), lo 518 (by omega)]; exact v6, by rw [jq _ (by omega), lo 519 (by omega)]; exact v7⟩
  · rw [lo 0 (by omega)] at l2
    rw [jq _ (by omega), lo (1 + l) (by omega)]
    exact v2 l l1 l2
  · rw [lo 0 (by omega)] at l2
    rw [lo (1 + l) (by omega)] at i2
    have := w2 l l1 l2
    rw [jq _ (by omega), lo _ (by omega)]
    exact v3 l i l1 l2 i1 i2
  · rw [eN] at j2
    rw [jh _ _ (by omega) (by omega), jh _ _ (by omega) (by omega), jh _ _ (by omega) (by omega)]
    by_cases g : k ≤ j
    · rw [if_pos ⟨g, j2⟩, if_pos ⟨g, j2⟩, if_pos ⟨g, j2⟩, zt_fdk_hi (by omega) hk.1 (by omega), zt_fdk_hi (by omega) hk.1 (by omega), zt_fdk_hi (by omega) hk.1 (by omega)]
      exact v5 (j + 1) (by omega) (by omega)
    · rw [if_neg (by omega), if_neg (by omega), if_neg (by omega), zt_fdk_lo hk.1 (by omega), zt_fdk_lo hk.1 (by omega), zt_fdk_lo hk.1 (by omega)]
      exact v5 j j1 (by omega)
end ZFu
