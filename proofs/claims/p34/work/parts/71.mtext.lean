/-! the reference reads a text -/
section ZMt
variable {d : Nat} {S : zS} {I J K R : zI} {T : Int × Nat} {M n v l f c k x y z r i p m a N b o : Int} {P Q D s B : Int → Int}
def zt_eq (D P : Int → Int) : Prop := ∀ j, 0 ≤ j → j < 520 → D j = P j
theorem zt_ag_eq (h : zt_eq D P) (hn : P 493 ≤ 8) : zt_ag D x y ↔ zt_ag P x y := by
  have e := h 493 (by omega) (by omega)
  constructor
  · rintro ⟨k, ⟨k1, k2⟩, q⟩
    rw [e] at k2
    rw [h _ (by omega) (by omega), h _ (by omega) (by omega)] at q
    exact ⟨k, ⟨k1, k2⟩, q⟩
  · rintro ⟨k, ⟨k1, k2⟩, q⟩
    exact ⟨k, ⟨k1, by rw [e]; exact k2⟩, by rw [h _ (by omega) (by omega), h _ (by omega) (by omega)]; exact q⟩
theorem zt_pos_eq (h : zt_eq D P) (hn : 0 ≤ P 493 ∧ P 493 ≤ 8) : zt_pos D x y = zt_pos P x y := by
  have e := h 493 (by omega) (by omega)
  have a := zt_pos_ok (P := D) (x := x) (y := y) (by rw [e]; exact hn.1)
  rw [e] at a
  exact zf_pos_uniq a (zt_pos_ok hn.1) (fun j j1 j2 => ⟨h (494 + 3 * j) (by omega) (by omega), h (495 + 3 * j) (by omega) (by omega)⟩)
theorem zt_up_eq2 (h : zt_eq D P) : zt_eq (zt_up D k v) (zt_up P k v) := fun j j1 j2 => by
  rw [zt_up_at, zt_up_at]
  by_cases g : j = k
  · rw [if_pos g, if_pos g]
  · rw [if_neg g, if_neg g]; exact h j j1 j2
theorem zt_fins_eq (h : zt_eq D P) (hk : 0 ≤ k ∧ k ≤ n ∧ n < 8) : zt_eq (zt_fins D n k x y v) (zt_fins P n k x y v) := fun j j1 j2 => by
  rw [zt_fins_at, zt_fins_at]
  by_cases g1 : j = 493
  · rw [if_pos g1, if_pos g1]
  · rw [if_neg g1, if_neg g1]
    by_cases g2 : j = 494 + 3 * k
    · rw [if_pos g2, if_pos g2]
    · rw [if_neg g2, if_neg g2]
      by_cases g3 : j = 495 + 3 * k
      · rw [if_pos g3, if_pos g3]
      · rw [if_neg g3, if_neg g3]
        by_cases g4 : j = 496 + 3 * k
        · rw [if_pos g4, if_pos g4]
        · rw [if_neg g4, if_neg g4]
          by_cases g5 : 497 + 3 * k ≤ j ∧ j < 497 + 3 * n
          · rw [if_pos g5, if_pos g5]; exact h _ (by omega) (by omega)
          · rw [if_neg g5, if_neg g5]; exact h j j1 j2
def zv_tm (I : zI) (M : Int) (q : zT4) : Prop := zt_eq (I (M + 2)) q.1 ∧ I M 15 = q.2.2.1 ∧ I M 16 = q.2.2.2 ∧ ∀ j, 0 ≤ j → j < q.2.2.1 → I (M + 6) j = q.2.1 j
def zo_tm (I J : zI) (M : Int) : Prop := (∀ x, x ≠ M → x ≠ M + 2 → x ≠ M + 6 → J x = I x) ∧ ∀ j, j ≠ 15 → j ≠ 16 → J M j = I M j
theorem zo_tm_refl : zo_tm I I M := ⟨fun _ _ _ _ => rfl, fun _ _ _ => rfl⟩
end ZMt
