/-! a fold is shut or opened; a fold is taken off -/
section ZFs
variable {d : Nat} {S : zS} {I J J1 J2 K K0 K1 R R' : zI} {T : Int × Nat} {X M n v l f c k x y z r i p w t m e b g len N o : Int} {P Q s : Int → Int}
theorem zw_shut (hw : zw_page P) (hk : 0 ≤ k ∧ k < P 493) (hv : 0 ≤ v ∧ v ≤ 1) : zw_page (zt_up P (496 + 3 * k) v) := by
  obtain ⟨w1, w2, w3, w4, w5, w6, w7, w8⟩ := hw
  have lo : ∀ j, j ≠ 496 + 3 * k → zt_up P (496 + 3 * k) v j = P j := fun j hj => zt_up_ne hj
  refine ⟨by rw [lo 0 (by omega)]; exact w1, fun l l1 l2 => ?_, by rw [lo 493 (by omega)]; exact w3, fun j j1 j2 => ?_, fun j j' j1 j2 j3 => ?_, by rw [lo 518 (by omega), lo 0 (by omega)]; exact w6, by rw [lo 519 (by omega)]; exact w7, by rw [lo 519 (by omega), lo 518 (by omega), lo _ (by omega)]; exact w8⟩
  · rw [lo 0 (by omega)] at l2
    rw [lo (1 + l) (by omega)]
    exact w2 l l1 l2
  · rw [lo 493 (by omega)] at j2
    have a := w4 j j1 j2
    rw [lo (494 + 3 * j) (by omega), lo (495 + 3 * j) (by omega), lo 0 (by omega)]
    refine ⟨a.1, ?_⟩
    by_cases g : j = k
    · rw [g, zt_up_eq rfl]; exact hv
    · rw [lo _ (by omega)]; exact a.2
  · rw [lo 493 (by omega)] at j3
    rw [lo (494 + 3 * j) (by omega), lo (495 + 3 * j) (by omega), lo (494 + 3 * j') (by omega), lo (495 + 3 * j') (by omega)]
    exact w5 j j' j1 j2 j3
theorem zv_shut (h : zv_rep I f P) (hw : zw_page P) (hk : 0 ≤ k ∧ k < P 493) : zv_rep (zi_up I (f + 7) k v) f (zt_up P (496 + 3 * k) v) := by
  obtain ⟨w1, w2, w3, w4, w5, w6, w7, w8⟩ := hw
  obtain ⟨v1, v2, v3, v4, v5, v6, v7⟩ := h
  have lo : ∀ j, j ≠ 496 + 3 * k → zt_up P (496 + 3 * k) v j = P j := fun j hj => zt_up_ne hj
  refine ⟨by rw [zu_off (by omega), lo 0 (by omega)]; exact v1, fun l l1 l2 => ?_, fun l i l1 l2 i1 i2 => ?_, by rw [zu_off (by omega), lo 493 (by omega)]; exact v4, fun j j1 j2 => ?_, by rw [zu_off (by omega), lo 518 (by omega)]; exact v6, by rw [zu_off (by omega), lo 519 (by omega)]; exact v7⟩
  · rw [lo 0 (by omega)] at l2
    rw [zu_off (by omega), lo (1 + l) (by omega)]
    exact v2 l l1 l2
  · rw [lo 0 (by omega)] at l2
    rw [lo (1 + l) (by omega)] at i2
    have := w2 l l1 l2
    rw [zu_off (by omega), lo _ (by omega)]
    exact v3 l i l1 l2 i1 i2
  · rw [lo 493 (by omega)] at j2
    obtain ⟨a1, a2, a3⟩ := v5 j j1 j2
    rw [zu_off (by omega), zu_off (by omega), lo (494 + 3 * j) (by omega), lo (495 + 3 * j) (by omega)]
    refine ⟨a1, a2, ?_⟩
    by_cases g : j = k
    · rw [zu_eq ⟨rfl, g⟩, g, zt_up_eq rfl]
    · rw [zu_ne (by omega), lo _ (by omega)]; exact a3
end ZFs
