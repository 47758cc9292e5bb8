/-! the reference: two lines become one, and folds follow -/
section ZJm
variable {d : Nat} {S : zS} {I J K R F : zI} {T : Int × Nat} {M n v l f c k x y z r i p m a N b : Int} {P Q Q0 D s : Int → Int}
theorem zj_x_at : zj_x l v = if l < v then v - 1 else v := rfl
/-- what is kept is in the order of folds -/
def zj_gd (F : zI) (l m N k : Int) (p : Int × zI) : Prop := (∀ j, 0 ≤ j → j < p.1 → (0 ≤ p.2 1 j ∧ p.2 1 j < p.2 2 j ∧ p.2 2 j < m - 1) ∧ 0 ≤ p.2 3 j ∧ p.2 3 j ≤ 1) ∧ (∀ i j, 0 ≤ i → i < j → j < p.1 → zf_nest (p.2 1 i) (p.2 2 i) (p.2 1 j) (p.2 2 j)) ∧ ∀ j k', 0 ≤ j → j < p.1 → k ≤ k' → k' < N → (p.2 1 j ≤ zj_x l (F 1 k') ∧ zj_x l (F 2 k') ≤ p.2 2 j) ∨ p.2 2 j ≤ zj_x l (F 1 k')
theorem zj_gd_step {p : Int × zI} (hF : ∀ j, 0 ≤ j → j < N → (0 ≤ F 1 j ∧ F 1 j < F 2 j ∧ F 2 j < m) ∧ 0 ≤ F 3 j ∧ F 3 j ≤ 1) (hn : ∀ j k, 0 ≤ j → j < k → k < N → zf_nest (F 1 j) (F 2 j) (F 1 k) (F 2 k)) (hl : 0 ≤ l ∧ l + 1 < m) (hk : 0 ≤ k ∧ k < N) (h0 : 0 ≤ p.1) (h : zj_gd F l m N k p) : zj_gd F l m N (k + 1) (zj_step F l k p) := by
  obtain ⟨h1, h2, h3⟩ := h
  by_cases g : zj_x l (F 1 k) < zj_x l (F 2 k) ∧ ¬ zj_cl p.2 p.1 (zj_x l (F 1 k)) (zj_x l (F 2 k))
  · rw [zj_step_t g]
    obtain ⟨c, A⟩ := p
    dsimp only at h0 h1 h2 h3 g
    obtain ⟨x, hx⟩ : ∃ x, zj_x l (F 1 k) = x := ⟨_, rfl⟩
    obtain ⟨y, hy⟩ : ∃ y, zj_x l (F 2 k) = y := ⟨_, rfl⟩
    rw [hx, hy] at g ⊢
    have hk3 := fun j j1 j2 => h3 j k j1 j2 (Int.le_refl _) hk.2
    rw [hx, hy] at hk3
    have fk := hF k hk.1 hk.2
    have bx : 0 ≤ x ∧ y < m - 1 := by
      rw [zj_x_at] at hx hy
      by_cases g1 : l < F 1 k <;> by_cases g2 : l < F 2 k <;> simp (disch := first | assumption | omega | trivial) only [if_pos, if_neg, if_true, if_false, true_and, and_true, not_true_eq_false, not_false_eq_true, false_and, and_false, Option.bind_some, zq_t, zq_f, zq0, zq1, zw_id] at hx <;> simp (disch := first | assumption | omega | trivial) only [if_pos, if_neg, if_true, if_false, true_and, and_true, not_true_eq_false, not_false_eq_true, false_and, and_false, Option.bind_some, zq_t, zq_f, zq0, zq1, zw_id] at hy <;> omega
    have o1 : ∀ j, j < c → zj_app A c x y (F 3 k) 1 j = A 1 j := fun j hj => by unfold zj_app; rw [zu_ne (by omega), zu_ne (by omega), zu_ne (by omega)]
    have o2 : ∀ j, j < c → zj_app A c x y (F 3 k) 2 j = A 2 j := fun j hj => by unfold zj_app; rw [zu_ne (by omega), zu_ne (by omega), zu_ne (by omega)]
    have o3 : ∀ j, j < c → zj_app A c x y (F 3 k) 3 j = A 3 j := fun j hj => by unfold zj_app; rw [zu_ne (by omega), zu_ne (by omega), zu_ne (by omega)]
    have n1 : zj_app A c x y (F 3 k) 1 c = x := by unfold zj_app; rw [zu_ne (by omega), zu_ne (by omega), zu_eq ⟨rfl, rfl⟩]
    have n2 : zj_app A c x y (F 3 k) 2 c = y := by unfold zj_app; rw [zu_ne (by omega), zu_eq ⟨rfl, rfl⟩]
    have n3 : zj_app A c x y (F 3 k) 3 c = F 3 k := by unfold zj_app; rw [zu_eq ⟨rfl, rfl⟩]
    refine ⟨fun j j1 j2 => ?_, fun i j i1 i2 i3 => ?_, fun j k' j1 j2 k1 k2 => ?_⟩ <;> dsimp only at *
    · by_cases e : j = c
      · rw [e, n1, n2, n3]; omega
      · rw [o1 j (by omega), o2 j (by omega), o3 j (by omega)]; exact h1 j j1 (by omega)
    · by_cases e : j = c
      · rw [e, n1, n2, o1 i (by omega), o2 i (by omega)]
        have a := hk3 i i1 (by omega)
        have bb := (h1 i i1 (by omega)).1
        have ng : ¬ zf_odds (A 1 i) (A 2 i) x y := fun q => g.2 ⟨i, ⟨i1, by omega⟩, q⟩
        unfold zf_odds at ng
        unfold zf_nest
        omega
      · rw [o1 i (by omega), o2 i (by omega), o1 j (by omega), o2 j (by omega)]; exact h2 i j i1 i2 (by omega)
    · by_cases e : j = c
      · rw [e, n1, n2, ← hx, ← hy]
        have a := hn k k' hk.1 (by omega) k2
        have fk' := hF k' (by omega) k2
        unfold zf_nest at a
        rw [zj_x_at, zj_x_at, zj_x_at, zj_x_at]
        by_cases g1 : l < F 1 k <;> by_cases g2 : l < F 2 k <;> by_cases g3 : l < F 1 k' <;> by_cases g4 : l < F 2 k' <;> simp (disch := first | assumption | omega | trivial) only [if_pos, if_neg, if_true, if_false, true_and, and_true, not_true_eq_false, not_false_eq_true, false_and, and_false, Option.bind_some, zq_t, zq_f, zq0, zq1, zw_id] <;> omega
      · rw [o1 j (by omega), o2 j (by omega)]; exact h3 j k' j1 (by omega) (by omega) k2
  · rw [zj_step_f g]
    exact ⟨h1, h2, fun j k' j1 j2 k1 k2 => h3 j k' j1 j2 (by omega) k2⟩
theorem zj_gd_fold (hF : ∀ j, 0 ≤ j → j < N → (0 ≤ F 1 j ∧ F 1 j < F 2 j ∧ F 2 j < m) ∧ 0 ≤ F 3 j ∧ F 3 j ≤ 1) (hn : ∀ j k, 0 ≤ j → j < k → k < N → zf_nest (F 1 j) (F 2 j) (F 1 k) (F 2 k)) (hl : 0 ≤ l ∧ l + 1 < m) : ∀ k : Nat, (k : Int) ≤ N → zj_gd F l m N k (zj_fold F l k)
  | 0, _ => by
    refine ⟨fun j j1 j2 => ?_, fun i j i1 i2 i3 => ?_, fun j k' j1 j2 k1 k2 => ?_⟩
    · have : j < 0 := j2
      omega
    · have : j < 0 := i3
      omega
    · have : j < 0 := j2
      omega
  | k + 1, hk => by
    have ih := zj_gd_fold hF hn hl k (by omega)
    have := zj_gd_step hF hn hl (k := k) (by omega) (zj_fold_c k).1 ih
    rw [show ((k + 1 : Nat) : Int) = (k : Int) + 1 by omega]
    exact this
/-- the row of the reference holds what is kept -/
def zj_row (Q0 Q : Int → Int) (p : Int × zI) : Prop := Q 493 = p.1 ∧ (∀ j, 0 ≤ j → j < p.1 → Q (494 + 3 * j) = p.2 1 j ∧ Q (495 + 3 * j) = p.2 2 j ∧ Q (496 + 3 * j) = p.2 3 j) ∧ ∀ j, (j < 493 ∨ 518 ≤ j) → Q j = Q0 j
theorem zj_row_ag {p : Int × zI} (h : zj_row Q0 Q p) : zt_ag Q x y ↔ zj_cl p.2 p.1 x y := by
  obtain ⟨h1, h2, -⟩ := h
  constructor
  · rintro ⟨k, ⟨k1, k2⟩, q⟩
    rw [h1] at k2
    obtain ⟨e1, e2, -⟩ := h2 k k1 k2
    rw [e1, e2] at q
    exact ⟨k, ⟨k1, k2⟩, q⟩
  · rintro ⟨k, ⟨k1, k2⟩, q⟩
    obtain ⟨e1, e2, -⟩ := h2 k k1 k2
    exact ⟨k, ⟨k1, by rw [h1]; exact k2⟩, by rw [e1, e2]; exact q⟩
theorem zj_row_pos {p : Int × zI} (h : zj_row Q0 Q p) (h0 : 0 ≤ p.1) (hg : ∀ j, 0 ≤ j → j < p.1 → p.2 1 j < p.2 2 j) (hx : x < y) (ho : ∀ j, 0 ≤ j → j < p.1 → (p.2 1 j ≤ x ∧ y ≤ p.2 2 j) ∨ p.2 2 j ≤ x) : zt_pos Q x y = p.1 := by
  obtain ⟨h1, h2, -⟩ := h
  obtain ⟨⟨a1, a2⟩, a3, -⟩ := zt_pos_b (P := Q) (x := x) (y := y) (by rw [h1]; exact h0)
  rw [h1] at a2 a3
  by_cases e : zt_pos Q x y = p.1
  · exact e
  · exfalso
    have q := a3 _ (Int.le_refl _) (by omega)
    obtain ⟨e1, e2, -⟩ := h2 (zt_pos Q x y) a1 (by omega)
    rw [e1, e2] at q
    have o := ho _ a1 (by omega)
    have g := hg _ a1 (by omega)
    unfold zf_ahead at q
    omega
theorem zj_row_t {p : Int × zI} {v : Int} (h : zj_row Q0 Q p) (h0 : 0 ≤ p.1 ∧ p.1 < 8) : zj_row Q0 (zt_fins Q p.1 p.1 x y v) (p.1 + 1, zj_app p.2 p.1 x y v) := by
  obtain ⟨h1, h2, h3⟩ := h
  refine ⟨zt_fins_n, fun j j1 j2 => ?_, fun j hj => by rw [zt_fins_lo (by omega) hj]; exact h3 j hj⟩
  dsimp only at j2 ⊢
  by_cases e : j = p.1
  · subst e
    rw [zt_fins_x h0.1, zt_fins_y h0.1, zt_fins_v h0.1]
    unfold zj_app
    refine ⟨?_, ?_, ?_⟩
    · rw [zu_ne (by omega), zu_ne (by omega), zu_eq ⟨rfl, rfl⟩]
    · rw [zu_ne (by omega), zu_eq ⟨rfl, rfl⟩]
    · rw [zu_eq ⟨rfl, rfl⟩]
  · obtain ⟨e1, e2, e3⟩ := h2 j j1 (by omega)
    rw [zt_fins_l (by omega) (by omega), zt_fins_l (by omega) (by omega), zt_fins_l (by omega) (by omega), e1, e2, e3]
    unfold zj_app
    refine ⟨?_, ?_, ?_⟩ <;> rw [zu_ne (by omega), zu_ne (by omega), zu_ne (by omega)]
end ZJm
