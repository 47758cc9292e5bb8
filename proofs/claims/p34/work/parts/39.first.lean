/-! of a line that is laid: where its rows begin and end -/
theorem zl_mono {n w t m ind rows : Int} {s rA cA ceA hA rB : Int → Int} (h : zl_ok n w t m ind s rows rA cA ceA hA rB) : ∀ q r, 0 ≤ q → q ≤ r → r ≤ rows → rB q ≤ rB r := by
  obtain ⟨-, -, -, h4, -⟩ := h
  have key : ∀ k : Nat, ∀ q r : Int, 0 ≤ q → q + k = r → r ≤ rows → rB q ≤ rB r := by
    intro k
    induction k with
    | zero => intro q r q1 q2 q3; rw [show q = r by omega]; exact Int.le_refl _
    | succ k ih =>
      intro q r q1 q2 q3
      have := ih q (r - 1) q1 (by omega) (by omega)
      have := (h4 (r - 1) (by omega) (by omega)).1
      rw [show r - 1 + 1 = r by omega] at this
      omega
  intro q r q1 q2 q3
  exact key (r - q).toNat q r q1 (by omega) q3
theorem zl_beg {n w t m ind rows r : Int} {s rA cA ceA hA rB : Int → Int} (h : zl_ok n w t m ind s rows rA cA ceA hA rB) (hr : 0 ≤ r ∧ r ≤ rows) : 0 ≤ rB r ∧ rB r ≤ n := by
  have q1 := zl_mono h 0 r (by omega) hr.1 hr.2
  have q2 := zl_mono h r rows hr.1 hr.2 (by omega)
  rw [h.2.1] at q1
  rw [h.2.2.1] at q2
  exact ⟨q1, q2⟩
theorem zl_at_le {w t m b c0 : Int} {s : Int → Int} (hm : m ≠ 0) (h0 : c0 ≤ w) : ∀ i, b ≤ i → zl_at w t m s b c0 i ≤ w := by
  have key : ∀ k : Nat, zl_at w t m s b c0 (b + k) ≤ w := by
    intro k
    induction k with
    | zero => rw [show b + ((0 : Nat) : Int) = b by simp, zl_at_self]; exact h0
    | succ k ih =>
      rw [show b + ((k + 1 : Nat) : Int) = b + k + 1 by omega, zl_at_succ (by omega)]
      generalize zl_at w t m s b c0 (b + k) = col at ih ⊢
      unfold zl_eff
      by_cases g : zl_fitb w t m (s (b + k)) (b + k) col = true
      · rw [if_pos g]
        rcases zl_fitb_iff.mp g with q | ⟨q1, q2⟩ | ⟨q1, q2⟩
        · exact absurd q hm
        · rw [q1]
          unfold zl_ce
          rw [if_neg (by omega), if_neg (by omega), if_pos rfl, if_neg hm]
          split
          · omega
          · split <;> omega
        · exact q2
      · rw [if_neg g]; omega
  intro i hi
  have := key (i - b).toNat
  rw [show b + (((i - b).toNat : Nat) : Int) = i by omega] at this
  exact this
theorem zl_first_fit {w t m c i c0 : Int} (hw : 4 ≤ w) (ht : 1 ≤ t) (hc : 0 ≤ c0 ∧ c0 ≤ w / 2) : zl_fit w t m c i c0 := by
  by_cases h9 : c = 9
  · exact Or.inr (Or.inl ⟨h9, by omega⟩)
  · refine Or.inr (Or.inr ⟨h9, ?_⟩)
    unfold zl_ce
    split
    · omega
    · split
      · split <;> omega
      · omega
/-- a row begins with a stop of its own -/
theorem zl_first {n w t m ind rows r : Int} {s rA cA ceA hA rB : Int → Int} (h : zl_ok n w t m ind s rows rA cA ceA hA rB) (hn : 0 ≤ n) (hw : 4 ≤ w) (ht : 1 ≤ t) (hi : 0 ≤ ind ∧ ind ≤ w / 2) (hr : 0 ≤ r ∧ r < rows) : rA (rB r) = r ∧ zl_isstop n s hA (rB r) := by
  obtain ⟨a1, a2, a3, a4, a5, a6, a7, a8, a9⟩ := id h
  by_cases hn0 : n = 0
  · obtain rfl : r = 0 := by omega
    rw [a2]
    refine ⟨?_, Or.inl rfl⟩
    rw [hn0] at a8
    rw [a8]; omega
  · have hlt := (a4 r hr.1 hr.2).2 (by omega)
    have hb := zl_beg h ⟨hr.1, by omega⟩
    have hb1 := zl_beg h (r := r + 1) ⟨by omega, by omega⟩
    obtain ⟨z1, z2, z3, z4⟩ := a7 r hr.1 hr.2 (rB r) (Int.le_refl _) hlt
    refine ⟨z1, ?_⟩
    by_cases hr0 : r = 0
    · rw [hr0, a2]; exact Or.inl rfl
    · rw [zl_at_self] at z4
      have hc0 : 0 ≤ zl_c0 ind r ∧ zl_c0 ind r ≤ w / 2 := by unfold zl_c0; split <;> omega
      have hfit : zl_fitb w t m (s (rB r)) (rB r) (zl_c0 ind r) = true := zl_fitb_iff.mpr (zl_first_fit hw ht hc0)
      rw [hfit] at z4
      refine Or.inr (Or.inr ⟨?_, z4⟩)
      obtain ⟨j, ⟨b1, b2, b3, b4⟩, b5⟩ := a5 (r - 1) (by omega) (by omega)
      rw [show r - 1 + 1 = r by omega] at b5
      have hbp := zl_beg h (r := r - 1) ⟨by omega, by omega⟩
      have hc1 : 0 ≤ zl_c0 ind (r - 1) ∧ zl_c0 ind (r - 1) ≤ w / 2 := by unfold zl_c0; split <;> omega
      have hjb : rB (r - 1) < j := by
        by_cases q : rB (r - 1) = j
        · exfalso
          rw [← q, zl_at_self] at b4
          exact b4 (zl_first_ok hw ht hc1)
        · omega
      have sj : s j ≠ 126 := by
        intro q
        refine b4 (Or.inl ?_)
        by_cases hm : m = 0
        · exact Or.inl hm
        · have hle := zl_at_le (t := t) (s := s) (b := rB (r - 1)) (c0 := zl_c0 ind (r - 1)) (w := w) hm (by omega) j b1
          refine Or.inr (Or.inr ⟨by omega, ?_⟩)
          unfold zl_ce
          rw [q, if_neg (by omega), if_pos rfl, if_neg (by omega)]
          omega
      rcases b5 with ⟨_, q⟩ | ⟨_, ⟨_, _, q, _⟩ | ⟨q, _⟩⟩
      · rw [q]; exact sj
      · exact q.2.2.1
      · rw [q]; exact sj
/-- the column behind the last sign of a row -/
theorem zl_endcol {n w t m ind rows r : Int} {s rA cA ceA hA rB : Int → Int} (h : zl_ok n w t m ind s rows rA cA ceA hA rB) (hn : 0 ≤ n) (hr : 0 ≤ r ∧ r < rows) : (if rB (r + 1) = 0 then 0 else if rB r = rB (r + 1) then cA (rB (r + 1)) else cA (rB (r + 1) - 1) + ceA (rB (r + 1) - 1)) = zl_at w t m s (rB r) (zl_c0 ind r) (rB (r + 1)) := by
  obtain ⟨a1, a2, a3, a4, a5, a6, a7, a8, a9⟩ := id h
  have hb := zl_beg h ⟨hr.1, by omega⟩
  have hb1 := zl_beg h (r := r + 1) ⟨by omega, by omega⟩
  obtain ⟨m1, m2⟩ := a4 r hr.1 hr.2
  by_cases g1 : rB (r + 1) = 0
  · have hn0 : n = 0 := by
      by_cases q : 0 < n
      · have := m2 q; omega
      · omega
    have hr0 : r = 0 := by omega
    subst hr0
    rw [if_pos g1, g1, a2, zl_at_self]
    unfold zl_c0
    rw [if_pos rfl]
  · have m3 := m2 (by omega)
    rw [if_neg g1, if_neg (by omega)]
    obtain ⟨z1, z2, z3, z4⟩ := a7 r hr.1 hr.2 (rB (r + 1) - 1) (by omega) (by omega)
    have := zl_at_succ (w := w) (t := t) (m := m) (s := s) (b := rB r) (c0 := zl_c0 ind r) (i := rB (r + 1) - 1) (by omega)
    rw [show rB (r + 1) - 1 + 1 = rB (r + 1) by omega] at this
    rw [z2, z3, this]
theorem zl_cols {n w t m ind rows : Int} {s rA cA ceA hA rB : Int → Int} (h : zl_ok n w t m ind s rows rA cA ceA hA rB) (hn : 0 ≤ n ∧ n ≤ 40) (ht : 1 ≤ t ∧ t ≤ 8) (hi : 0 ≤ ind ∧ ind ≤ 20) : (∀ i, 0 ≤ i → i < n → (0 ≤ cA i ∧ cA i ≤ 400) ∧ (0 ≤ ceA i ∧ ceA i ≤ 8) ∧ (hA i = 0 ∨ hA i = 1) ∧ 0 ≤ rA i ∧ rA i < rows) ∧ (0 ≤ cA n ∧ cA n ≤ 400) ∧ 0 ≤ rA n ∧ rA n < rows := by
  obtain ⟨a1, a2, a3, a4, a5, a6, a7, a8, a9⟩ := id h
  have hc : ∀ r, 0 ≤ zl_c0 ind r ∧ zl_c0 ind r ≤ 20 := fun r => by unfold zl_c0; split <;> omega
  refine ⟨fun i i1 i2 => ?_, ?_, by omega⟩
  · obtain ⟨r, r1, r2, r3, r4⟩ := zl_find a2 a3 (by omega) (fun r h1 h2 => (a4 r h1 h2).1) i1 i2
    obtain ⟨z1, z2, z3, z4⟩ := a7 r r1 r2 i r3 r4
    have hb := zl_beg h ⟨r1, by omega⟩
    have q := zl_at_ir (w := w) (m := m) (s := s) (b := rB r) ht (hc r).1 i r3
    have hcr := hc r
    have q2 := zl_eff_ir (w := w) (m := m) (c := s i) (i := i) ht q.1
    refine ⟨by rw [z2]; omega, by rw [z3]; exact q2, ?_, by omega⟩
    rw [z4]
    split
    · exact Or.inl rfl
    · exact Or.inr rfl
  · have hb := zl_beg h (r := rows - 1) ⟨by omega, by omega⟩
    have q := zl_at_ir (w := w) (m := m) (s := s) (b := rB (rows - 1)) ht (hc (rows - 1)).1 n hb.2
    have hcr := hc (rows - 1)
    rw [a9]; omega
