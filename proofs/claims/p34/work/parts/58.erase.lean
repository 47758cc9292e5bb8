/-! signs are erased -/
section ZEr
variable {d : Nat} {S : zS} {I J J1 J2 K K0 K1 R R' : zI} {T : Int × Nat} {X M n v l f c k x y z r i p w t m e b g len : Int} {P Q s : Int → Int}
def zt_rem (P : Int → Int) (l b i n : Int) : Int → Int := fun j => if j = 1 + l then n - (i - b) else if j = 519 then b else if 13 + 40 * l + b ≤ j ∧ j < 13 + 40 * l + b + (n - i) then P (j + (i - b)) else P j
theorem zt_rem_at {j : Int} : zt_rem P l b i n j = if j = 1 + l then n - (i - b) else if j = 519 then b else if 13 + 40 * l + b ≤ j ∧ j < 13 + 40 * l + b + (n - i) then P (j + (i - b)) else P j := rfl
theorem zt_rem_lo {j : Int} (hl : 0 ≤ l ∧ l < 12) (hb : 0 ≤ b ∧ b ≤ i ∧ i ≤ n ∧ n ≤ 40) (hj : (j ≤ 12 ∧ j ≠ 1 + l) ∨ (493 ≤ j ∧ j ≠ 519)) : zt_rem P l b i n j = P j := by
  rw [zt_rem_at, if_neg (by omega), if_neg (by omega), if_neg (by omega)]
theorem zw_rem2 (hw : zw_page P) (hl : P 518 = l) (hlen : P (1 + l) = n) (hb : 0 ≤ b ∧ b ≤ i ∧ i ≤ n) : zw_page (zt_rem P l b i n) := by
  obtain ⟨w1, w2, w3, w4, w5, w6, w7, w8⟩ := hw
  rw [hl] at w6 w8
  have wn := w2 l w6.1 w6.2
  rw [hlen] at w8 wn
  have lo : ∀ j, (j ≤ 12 ∧ j ≠ 1 + l ∨ 493 ≤ j ∧ j ≠ 519) → zt_rem P l b i n j = P j := fun j hj => zt_rem_lo (by omega) (by omega) hj
  have e1 : zt_rem P l b i n (1 + l) = n - (i - b) := by rw [zt_rem_at, if_pos rfl]
  have e2 : zt_rem P l b i n 519 = b := by rw [zt_rem_at, if_neg (by omega), if_pos rfl]
  have e3 : zt_rem P l b i n 518 = l := by rw [lo _ (by omega), hl]
  have e0 : zt_rem P l b i n 0 = P 0 := lo _ (by omega)
  have e4 : zt_rem P l b i n 493 = P 493 := lo _ (by omega)
  refine ⟨by rw [e0]; exact w1, fun l' l1 l2 => ?_, by rw [e4]; exact w3, fun j j1 j2 => ?_, fun j j' j1 j2 j3 => ?_, by rw [e3, e0]; omega, by rw [e2]; omega, by rw [e2, e3, e1]; omega⟩
  · rw [e0] at l2
    by_cases g : l' = l
    · rw [g, e1]; omega
    · rw [lo (1 + l') (by omega)]; exact w2 l' l1 l2
  · rw [e4] at j2
    rw [lo (494 + 3 * j) (by omega), lo (495 + 3 * j) (by omega), lo (496 + 3 * j) (by omega), e0]; exact w4 j j1 j2
  · rw [e4] at j3
    rw [lo (494 + 3 * j) (by omega), lo (495 + 3 * j) (by omega), lo (494 + 3 * j') (by omega), lo (495 + 3 * j') (by omega)]; exact w5 j j' j1 j2 j3
theorem zv_rem1 (h : zv_rep I f P) (hw : zw_page P) (hl : P 518 = l) (hlen : P (1 + l) = n) (hb : 0 ≤ b ∧ b ≤ i ∧ i ≤ n) : zv_rep (zi_up (zp_rem I (f + 1) l b i n) f 3 b) f (zt_rem P l b i n) := by
  obtain ⟨v1, v2, v3, v4, v5, v6, v7⟩ := h
  obtain ⟨w1, w2, w3, w4, w5, w6, w7, w8⟩ := hw
  rw [hl] at w6 w8
  have wn := w2 l w6.1 w6.2
  rw [hlen] at w8 wn
  have lo : ∀ j, (j ≤ 12 ∧ j ≠ 1 + l ∨ 493 ≤ j ∧ j ≠ 519) → zt_rem P l b i n j = P j := fun j hj => zt_rem_lo (by omega) (by omega) hj
  have e1 : zt_rem P l b i n (1 + l) = n - (i - b) := by rw [zt_rem_at, if_pos rfl]
  have e2 : zt_rem P l b i n 519 = b := by rw [zt_rem_at, if_neg (by omega), if_pos rfl]
  have pq : ∀ q j, q ≠ f + 2 → q ≠ f + 3 → zp_rem I (f + 1) l b i n q j = I q j := fun q j q1 q2 => by
    unfold zp_rem
    rw [if_neg (by omega), if_neg (by omega)]
  have p2 : ∀ j, zp_rem I (f + 1) l b i n (f + 2) j = if j = l then n - (i - b) else I (f + 2) j := fun j => by
    unfold zp_rem
    by_cases g : j = l
    · rw [if_neg (by omega), if_pos (by omega), if_pos g]
    · rw [if_neg (by omega), if_neg (by omega), if_neg g]
  have p3 : ∀ j, zp_rem I (f + 1) l b i n (f + 3) j = if l * 40 + b ≤ j ∧ j < l * 40 + b + (n - i) then I (f + 3) (j + (i - b)) else I (f + 3) j := fun j => by
    unfold zp_rem
    by_cases g : l * 40 + b ≤ j ∧ j < l * 40 + b + (n - i)
    · rw [if_pos (by omega), if_pos g]
    · rw [if_neg (by omega), if_neg (by omega), if_neg g]
  refine ⟨?_, fun l' l1 l2 => ?_, fun l' k l1 l2 k1 k2 => ?_, ?_, fun k k1 k2 => ?_, ?_, ?_⟩
  · rw [zu_off (by omega), pq _ _ (by omega) (by omega), v1, lo 0 (by omega)]
  · rw [lo 0 (by omega)] at l2
    rw [zu_off (by omega), p2]
    by_cases g : l' = l
    · rw [if_pos g, g, e1]
    · rw [if_neg g, lo (1 + l') (by omega)]; exact v2 l' l1 l2
  · rw [lo 0 (by omega)] at l2
    rw [zu_off (by omega), p3]
    by_cases g : l' = l
    · subst g
      rw [e1] at k2
      by_cases g2 : b ≤ k
      · rw [if_pos (by omega), zt_rem_at, if_neg (by omega), if_neg (by omega), if_pos (by omega), show l' * 40 + k + (i - b) = l' * 40 + (k + (i - b)) by omega, show 13 + 40 * l' + k + (i - b) = 13 + 40 * l' + (k + (i - b)) by omega]
        exact v3 l' (k + (i - b)) l1 l2 (by omega) (by omega)
      · rw [if_neg (by omega), zt_rem_at, if_neg (by omega), if_neg (by omega), if_neg (by omega)]
        exact v3 l' k l1 l2 k1 (by omega)
    · rw [lo (1 + l') (by omega)] at k2
      have bb := w2 l' l1 l2
      rw [if_neg (by omega), zt_rem_at, if_neg (by omega), if_neg (by omega), if_neg (by omega)]
      exact v3 l' k l1 l2 k1 k2
  · rw [zu_off (by omega), pq _ _ (by omega) (by omega), v4, lo 493 (by omega)]
  · rw [lo 493 (by omega)] at k2
    rw [zu_off (show ¬ f + 5 = f by omega), zu_off (show ¬ f + 6 = f by omega), zu_off (show ¬ f + 7 = f by omega), pq (f + 5) k (by omega) (by omega), pq (f + 6) k (by omega) (by omega), pq (f + 7) k (by omega) (by omega), lo (494 + 3 * k) (by omega), lo (495 + 3 * k) (by omega), lo (496 + 3 * k) (by omega)]
    exact v5 k k1 k2
  · rw [zu_ne (by omega), pq _ _ (by omega) (by omega), v6, lo 518 (by omega)]
  · rw [zu_eq ⟨rfl, rfl⟩, e2]
end ZEr
