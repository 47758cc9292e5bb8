/-! a line that is laid: what its numbers keep -/
section ZP1
variable {n w t m ind rows i j k r x c col b c0 : Int} {s rA cA ceA hA rB : Int → Int}
theorem zl_eff_nn (ht : 1 ≤ t) : 0 ≤ zl_eff w t m c i col := by
  have h1 := Int.emod_lt_of_pos col (show 0 < t by omega)
  unfold zl_eff
  split
  · unfold zl_ce
    split
    · omega
    · split
      · split <;> omega
      · split
        · split
          · omega
          · split
            · omega
            · split <;> omega
        · omega
  · omega
theorem zl_eff_pos (ht : 1 ≤ t) (hs : i = 0 ∨ c ≠ 126) (hf : zl_fitb w t m c i col = true) : 1 ≤ zl_eff w t m c i col := by
  have h1 := Int.emod_lt_of_pos col (show 0 < t by omega)
  have hf' := zl_fitb_iff.mp hf
  unfold zl_fit at hf'
  unfold zl_eff
  rw [if_pos hf]
  unfold zl_ce
  split
  · omega
  · rename_i g1
    split
    · rename_i g2
      rw [if_pos (by omega)]
      omega
    · split
      · rename_i g3
        split
        · omega
        · split
          · omega
          · split
            · omega
            · omega
      · omega
theorem zl_at_up (ht : 1 ≤ t) (h : b ≤ i) : ∀ k : Nat, zl_at w t m s b c0 i ≤ zl_at w t m s b c0 (i + k)
  | 0 => by simp
  | k + 1 => by
    have h1 := zl_at_up ht h k
    have h2 := zl_at_succ (w := w) (t := t) (m := m) (s := s) (c0 := c0) (b := b) (i := i + k) (by omega)
    have h3 := zl_eff_nn (w := w) (m := m) (c := s (i + k)) (i := i + k) (col := zl_at w t m s b c0 (i + k)) ht
    rw [show i + ((k + 1 : Nat) : Int) = i + k + 1 by omega, h2]
    omega
theorem zl_at_le2 (ht : 1 ≤ t) (h : b ≤ i) (hij : i ≤ j) : zl_at w t m s b c0 i ≤ zl_at w t m s b c0 j := by
  have := zl_at_up (c0 := c0) (s := s) (w := w) (m := m) ht h (j - i).toNat
  rw [show i + (((j - i).toNat : Nat) : Int) = j by omega] at this
  exact this
/-- the row of a place -/
theorem zl_rowof (h : zl_ok n w t m ind s rows rA cA ceA hA rB) (hi : 0 ≤ i ∧ i ≤ n) : (0 ≤ rA i ∧ rA i < rows) ∧ rB (rA i) ≤ i ∧ (i < n → i < rB (rA i + 1)) ∧ cA i = zl_at w t m s (rB (rA i)) (zl_c0 ind (rA i)) i := by
  obtain ⟨h1, h2, h3, h4, h5, h6, h7, h8, h9⟩ := h
  by_cases g : i = n
  · subst g
    rw [h8]
    have hb := (h4 (rows - 1) (by omega) (by omega)).1
    rw [show rows - 1 + 1 = rows by omega, h3] at hb
    exact ⟨by omega, hb, fun z => by omega, h9⟩
  · obtain ⟨r, r1, r2, r3, r4⟩ := zl_find h2 h3 h1.1 (fun r a b => (h4 r a b).1) hi.1 (by omega)
    obtain ⟨e1, e2, -, -⟩ := h7 r r1 r2 i r3 r4
    rw [e1]
    exact ⟨⟨r1, r2⟩, r3, fun _ => r4, e2⟩
theorem zl_cells (h : zl_ok n w t m ind s rows rA cA ceA hA rB) (hi : 0 ≤ i ∧ i < n) : ceA i = zl_eff w t m (s i) i (cA i) ∧ hA i = (if zl_fitb w t m (s i) i (cA i) then 0 else 1) ∧ cA i + ceA i = zl_at w t m s (rB (rA i)) (zl_c0 ind (rA i)) (i + 1) := by
  obtain ⟨a1, a2, a3, a4⟩ := zl_rowof h (i := i) ⟨hi.1, by omega⟩
  obtain ⟨h1, h2, h3, h4, h5, h6, h7, h8, h9⟩ := h
  obtain ⟨e1, e2, e3, e4⟩ := h7 _ a1.1 a1.2 i a2 (a3 hi.2)
  rw [← a4] at e3 e4
  refine ⟨e3, e4, ?_⟩
  rw [zl_at_succ a2, ← a4, e3]
theorem zl_stop_ce (h : zl_ok n w t m ind s rows rA cA ceA hA rB) (hw : 4 ≤ w) (ht : 1 ≤ t) (hi : 0 ≤ i ∧ i < n) (hs : zl_isstop n s hA i) : 1 ≤ ceA i := by
  obtain ⟨e1, e2, -⟩ := zl_cells h hi
  by_cases g : i = 0
  · subst g
    obtain ⟨a1, a2, a3, a4⟩ := zl_rowof h (i := 0) ⟨by omega, by omega⟩
    have hr : rA 0 = 0 := by
      obtain ⟨h1, h2, h3, h4, h5, h6, h7, h8, h9⟩ := h
      by_cases q : rA 0 = 0
      · exact q
      · have m1 := (h4 0 (by omega) (by omega)).2 (by omega)
        have m2 := zl_mono ⟨h1, h2, h3, h4, h5, h6, h7, h8, h9⟩ 1 (rA 0) (by omega) (by omega) (by omega)
        rw [show (0 : Int) + 1 = 1 by omega] at m1
        omega
    have hc0 : zl_c0 ind 0 = 0 := if_pos rfl
    have hb0 := h.2.1
    rw [hr, hb0, zl_at_self, hc0] at a4
    rw [e1]
    exact zl_eff_pos ht (Or.inl rfl) (zl_fitb_iff.mpr (by rw [a4]; exact zl_first_fit hw ht (by omega)))
  · rcases hs with q | q | ⟨q1, q2⟩
    · exact absurd q g
    · omega
    · rw [e1]
      refine zl_eff_pos ht (Or.inr q1) ?_
      rw [e2] at q2
      by_cases q : zl_fitb w t m (s i) i (cA i) = true
      · exact q
      · rw [if_neg q] at q2
        omega
/-- rows and columns rise -/
theorem zl_rise (h : zl_ok n w t m ind s rows rA cA ceA hA rB) (ht : 1 ≤ t) (hi : 0 ≤ i) (hij : i < j) (hj : j ≤ n) : rA i < rA j ∨ (rA i = rA j ∧ cA i + ceA i ≤ cA j) := by
  obtain ⟨a1, a2, a3, a4⟩ := zl_rowof h (i := i) ⟨hi, by omega⟩
  obtain ⟨b1, b2, b3, b4⟩ := zl_rowof h (i := j) ⟨by omega, hj⟩
  have a3 := a3 (by omega)
  rcases Int.lt_trichotomy (rA i) (rA j) with q | q | q
  · exact Or.inl q
  · refine Or.inr ⟨q, ?_⟩
    rw [(zl_cells h (i := i) ⟨hi, by omega⟩).2.2, b4, ← q]
    exact zl_at_le2 ht (by omega) (by omega)
  · exfalso
    have m1 := zl_mono h (rA j + 1) (rA i) (by omega) (by omega) (by omega)
    by_cases g : j < n
    · have := b3 g; omega
    · have : j = n := by omega
      have h8 := h.2.2.2.2.2.2.2.1
      rw [this] at q
      omega
/-- a column of a row: it is one of a sign's, if it isn't too far -/
theorem zl_cover (h : zl_ok n w t m ind s rows rA cA ceA hA rB) (ht : 1 ≤ t) (hr : 0 ≤ r ∧ r < rows) : (∀ x, zl_c0 ind r ≤ x → x < zl_at w t m s (rB r) (zl_c0 ind r) (rB (r + 1)) → ∃ i, (rB r ≤ i ∧ i < rB (r + 1)) ∧ cA i ≤ x ∧ x < cA i + ceA i) ∧ (∀ x i, rB r ≤ i → i < rB (r + 1) → cA i ≤ x → x < cA i + ceA i → zl_c0 ind r ≤ x ∧ x < zl_at w t m s (rB r) (zl_c0 ind r) (rB (r + 1))) := by
  have hb := zl_beg h (r := r) (by omega)
  have hb1 := zl_beg h (r := r + 1) (by omega)
  have row : ∀ i, rB r ≤ i → i < rB (r + 1) → cA i = zl_at w t m s (rB r) (zl_c0 ind r) i ∧ cA i + ceA i = zl_at w t m s (rB r) (zl_c0 ind r) (i + 1) := by
    intro i i1 i2
    obtain ⟨e1, e2, e3, -⟩ := h.2.2.2.2.2.2.1 r hr.1 hr.2 i i1 i2
    refine ⟨e2, ?_⟩
    rw [zl_at_succ i1, e2, e3]
  refine ⟨fun x x1 x2 => ?_, fun x i i1 i2 i3 i4 => ?_⟩
  · have key : ∀ k : Nat, rB r + k ≤ rB (r + 1) → x < zl_at w t m s (rB r) (zl_c0 ind r) (rB r + k) → ∃ i, (rB r ≤ i ∧ i < rB (r + 1)) ∧ cA i ≤ x ∧ x < cA i + ceA i := by
      intro k
      induction k with
      | zero =>
        intro _ g
        rw [show rB r + ((0 : Nat) : Int) = rB r by omega, zl_at_self] at g
        omega
      | succ k ih =>
        intro g1 g2
        by_cases g : x < zl_at w t m s (rB r) (zl_c0 ind r) (rB r + k)
        · exact ih (by omega) g
        · obtain ⟨e1, e2⟩ := row (rB r + k) (by omega) (by omega)
          rw [show rB r + ((k + 1 : Nat) : Int) = rB r + k + 1 by omega, ← e2] at g2
          rw [← e1] at g
          exact ⟨rB r + k, ⟨by omega, by omega⟩, by omega, g2⟩
    have hm := zl_mono h r (r + 1) hr.1 (by omega) (by omega)
    exact key (rB (r + 1) - rB r).toNat (by omega) (by rw [show rB r + (((rB (r + 1) - rB r).toNat : Nat) : Int) = rB (r + 1) by omega]; exact x2)
  · obtain ⟨e1, e2⟩ := row i i1 i2
    have q1 := zl_at_le2 (w := w) (m := m) (s := s) (c0 := zl_c0 ind r) (b := rB r) (i := rB r) (j := i) ht (Int.le_refl _) i1
    have q2 := zl_at_le2 (w := w) (m := m) (s := s) (c0 := zl_c0 ind r) (b := rB r) (i := i + 1) (j := rB (r + 1)) ht (by omega) (by omega)
    rw [zl_at_self] at q1
    omega
/-- a row ends behind its beginning, and not too far -/
theorem zl_behind (h : zl_ok n w t m ind s rows rA cA ceA hA rB) (ht : 1 ≤ t) (hi : 0 ≤ ind ∧ ind ≤ w / 2) (hw : 4 ≤ w) (hr : 0 ≤ r ∧ r < rows) : zl_c0 ind r ≤ zl_at w t m s (rB r) (zl_c0 ind r) (rB (r + 1)) ∧ (m ≠ 0 → zl_at w t m s (rB r) (zl_c0 ind r) (rB (r + 1)) ≤ w) ∧ 0 ≤ zl_c0 ind r := by
  have hm := zl_mono h r (r + 1) hr.1 (by omega) (by omega)
  have q1 := zl_at_le2 (w := w) (m := m) (s := s) (c0 := zl_c0 ind r) (b := rB r) (i := rB r) (j := rB (r + 1)) ht (Int.le_refl _) hm
  rw [zl_at_self] at q1
  have c1 : 0 ≤ zl_c0 ind r ∧ zl_c0 ind r ≤ w := by
    unfold zl_c0
    split <;> omega
  exact ⟨q1, fun hm0 => zl_at_le hm0 c1.2 _ hm, c1.1⟩
/-- the column behind a row is small -/
theorem zl_behind_ir (h : zl_ok n w t m ind s rows rA cA ceA hA rB) (hn : 0 ≤ n ∧ n ≤ 40) (ht : 1 ≤ t ∧ t ≤ 8) (hi : 0 ≤ ind ∧ ind ≤ 20) (hr : 0 ≤ r ∧ r < rows) : zl_at w t m s (rB r) (zl_c0 ind r) (rB (r + 1)) ≤ 408 := by
  have e := zl_endcol h hn.1 hr
  have hc := zl_cols h hn ht hi
  have hb := zl_beg h (r := r) (by omega)
  have hb1 := zl_beg h (r := r + 1) (by omega)
  have hm := zl_mono h r (r + 1) hr.1 (by omega) (by omega)
  rw [← e]
  split
  · omega
  · split
    · by_cases g : rB (r + 1) = n
      · rw [g]; have := hc.2.1; omega
      · have := hc.1 (rB (r + 1)) (by omega) (by omega); omega
    · have := hc.1 (rB (r + 1) - 1) (by omega) (by omega); omega
end ZP1
