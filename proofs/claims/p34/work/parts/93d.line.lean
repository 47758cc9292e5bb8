/-! the object alone: what its lines keep, told by the calls -/
section ZA3
variable {d : Nat} {S : zS} {I J R : zI} {T : Int × Nat} {X n v l f c k x y z r i j p w t m e a b : Int} {P Q : Int → Int}
theorem zA_ind20 (h : zA_now S I R X P w t m e) : 0 ≤ zl_ind n w t m e (zt_sg P l) ∧ zl_ind n w t m e (zt_sg P l) ≤ 20 := by
  have h1 := zA_ind h (n := n) (l := l)
  have h2 := (zA_st h).1
  omega
/-- places and their rows -/
theorem zA_pl (h : zA_now S I R X P w t m e) (hl : 0 ≤ l ∧ l < P 0) (hi : 0 ≤ i ∧ i ≤ P (1 + l)) : (0 ≤ I (X + 135 + 11 + 9 * l + 1) i ∧ I (X + 135 + 11 + 9 * l + 1) i < I (X + 135 + 11 + 9 * l) 1) ∧ (I (X + 135 + 11 + 9 * l + 7) (I (X + 135 + 11 + 9 * l + 1) i) ≤ i) ∧ (i < P (1 + l) → i < I (X + 135 + 11 + 9 * l + 7) (I (X + 135 + 11 + 9 * l + 1) i + 1)) ∧ 0 ≤ I (X + 135 + 11 + 9 * l + 2) i ∧ I (X + 135 + 11 + 9 * l + 2) i ≤ 400 := by
  have pic := zA_pic h hl
  obtain ⟨a1, a2, a3, -⟩ := zl_rowof pic.2.2.1 hi
  have a4 := zl_pic_row pic (zA_len h hl) (zA_st h).2.1 (zA_ind20 h) hi
  exact ⟨a1, a2, a3, a4.2.2.2⟩
/-- where rows begin -/
theorem zA_fp (h : zA_now S I R X P w t m e) (hl : 0 ≤ l ∧ l < P 0) : I (X + 135 + 11 + 9 * l + 7) 0 = 0 ∧ I (X + 135 + 11 + 9 * l + 7) (I (X + 135 + 11 + 9 * l) 1) = P (1 + l) ∧ ∀ k, 0 ≤ k → k < I (X + 135 + 11 + 9 * l) 1 → (0 ≤ I (X + 135 + 11 + 9 * l + 7) k ∧ I (X + 135 + 11 + 9 * l + 7) k ≤ I (X + 135 + 11 + 9 * l + 7) (k + 1) ∧ I (X + 135 + 11 + 9 * l + 7) (k + 1) ≤ P (1 + l)) ∧ (0 < k → I (X + 135 + 11 + 9 * l + 7) k < I (X + 135 + 11 + 9 * l + 7) (k + 1)) ∧ I (X + 135 + 11 + 9 * l + 1) (I (X + 135 + 11 + 9 * l + 7) k) = k ∧ I (X + 135 + 11 + 9 * l + 5) (I (X + 135 + 11 + 9 * l + 7) k) = 1 := by
  have pic := zA_pic h hl
  have hn := zA_len h hl
  have st := zA_st h
  obtain ⟨h1, h2, h3, h4, -⟩ := id pic.2.2.1
  refine ⟨h2, h3, fun k k1 k2 => ?_⟩
  have b0 := zl_beg pic.2.2.1 (r := k) (by omega)
  have b1 := zl_beg pic.2.2.1 (r := k + 1) (by omega)
  obtain ⟨c1, c2⟩ := h4 k k1 k2
  have ff := zl_first pic.2.2.1 hn.1 st.1.1 st.2.1.1 (zA_ind h) (r := k) ⟨k1, k2⟩
  exact ⟨⟨b0.1, c1, b1.2⟩, fun z => c2 (by omega), ff.1, by rw [pic.2.2.2.1 _ b0.1 b0.2]; exact zq_t ff.2⟩
theorem zA_ends (h : zA_now S I R X P w t m e) (hl : 0 ≤ l ∧ l < P 0) : I (X + 135 + 11 + 9 * l + 5) 0 = 1 ∧ I (X + 135 + 11 + 9 * l + 5) (P (1 + l)) = 1 := by
  have pv := zA_pic h hl
  have nv := zA_len h hl
  exact ⟨by rw [pv.2.2.2.1 0 (by omega) nv.1]; exact zq_t (Or.inl rfl), by rw [pv.2.2.2.1 _ nv.1 (Int.le_refl _)]; exact zq_t (Or.inr (Or.inl rfl))⟩
/-- stops rise -/
theorem zA_up (h : zA_now S I R X P w t m e) (hl : 0 ≤ l ∧ l < P 0) (hi : 0 ≤ i) (hij : i < j) (hj : j ≤ P (1 + l)) : I (X + 135 + 11 + 9 * l + 1) i < I (X + 135 + 11 + 9 * l + 1) j ∨ (I (X + 135 + 11 + 9 * l + 1) i = I (X + 135 + 11 + 9 * l + 1) j ∧ I (X + 135 + 11 + 9 * l + 2) i + I (X + 135 + 11 + 9 * l + 3) i ≤ I (X + 135 + 11 + 9 * l + 2) j) := zl_rise (zA_pic h hl).2.2.1 (zA_st h).2.1.1 hi hij hj
theorem zA_ce (h : zA_now S I R X P w t m e) (hl : 0 ≤ l ∧ l < P 0) (hi : 0 ≤ i ∧ i < P (1 + l)) (hs : I (X + 135 + 11 + 9 * l + 5) i = 1) : 1 ≤ I (X + 135 + 11 + 9 * l + 3) i := by
  have pic := zA_pic h hl
  rw [pic.2.2.2.1 i hi.1 (by omega), zq1] at hs
  exact zl_stop_ce pic.2.2.1 (zA_st h).1.1 (zA_st h).2.1.1 hi hs
theorem zA_sup (h : zA_now S I R X P w t m e) (hl : 0 ≤ l ∧ l < P 0) (hi : 0 ≤ i) (hij : i < j) (hj : j ≤ P (1 + l)) (hs : I (X + 135 + 11 + 9 * l + 5) i = 1) : I (X + 135 + 11 + 9 * l + 1) i < I (X + 135 + 11 + 9 * l + 1) j ∨ (I (X + 135 + 11 + 9 * l + 1) i = I (X + 135 + 11 + 9 * l + 1) j ∧ I (X + 135 + 11 + 9 * l + 2) i < I (X + 135 + 11 + 9 * l + 2) j) := by
  have h1 := zA_up h hl hi hij hj
  have h2 := zA_ce h hl (i := i) (by omega) hs
  omega
/-- the row of a place of a line that is shown -/
theorem zA_plr (h : zA_now S I R X P w t m e) (hl : 0 ≤ l ∧ l < P 0) (hi : 0 ≤ i ∧ i ≤ P (1 + l)) (nh : ¬ zt_hid P l) : zA_B I X P l ≤ zA_B I X P l + I (X + 135 + 11 + 9 * l + 1) i ∧ zA_B I X P l + I (X + 135 + 11 + 9 * l + 1) i < zA_B I X P (l + 1) ∧ zA_B I X P l + I (X + 135 + 11 + 9 * l + 1) i - zA_B I X P l = I (X + 135 + 11 + 9 * l + 1) i := by
  have h1 := (zA_pl h hl hi).1
  rw [zA_Bn hl.1 nh]
  omega
/-- the place near a stop is itself -/
theorem zA_near (h : zA_now S I R X P w t m e) (hl : 0 ≤ l ∧ l < P 0) (hi : 0 ≤ i ∧ i ≤ P (1 + l)) (hs : I (X + 135 + 11 + 9 * l + 5) i = 1) (hp : zl_lst (I (X + 135 + 11 + 9 * l + 7) (I (X + 135 + 11 + 9 * l + 1) i)) (P (1 + l) + 1) (fun j => I (X + 135 + 11 + 9 * l + 1) j = I (X + 135 + 11 + 9 * l + 1) i ∧ I (X + 135 + 11 + 9 * l + 5) j = 1 ∧ I (X + 135 + 11 + 9 * l + 2) j ≤ I (X + 135 + 11 + 9 * l + 2) i) p) : p = i := by
  obtain ⟨a1, a2, a3, a4⟩ := zA_pl h hl hi
  rcases hp with ⟨b1, b2, ⟨b3, b4, b5⟩, b6⟩ | ⟨b1, b2⟩
  · rcases Int.lt_trichotomy p i with g | g | g
    · exact absurd ⟨rfl, hs, Int.le_refl _⟩ (b6 i g (by omega))
    · exact g
    · have := zA_sup h hl hi.1 g (by omega) hs
      omega
  · by_cases g : p = i
    · exact g
    · exact absurd ⟨rfl, hs, Int.le_refl _⟩ (b2 i (by omega) (by omega))
theorem zA_to_s (h : zA_now S I R X P w t m e) (hl : 0 ≤ l ∧ l < P 0) (hi : 0 ≤ i ∧ i ≤ P (1 + l)) (nh : ¬ zt_hid P l) (hs : I (X + 135 + 11 + 9 * l + 5) i = 1) : zG (d + 10) 108 [.inr (.inr X), .inl (zA_B I X P l + I (X + 135 + 11 + 9 * l + 1) i), .inl (I (X + 135 + 11 + 9 * l + 2) i)] (S, I, R, T) = some (i, (S, I, R, T)) := by
  obtain ⟨r1, r2, r3⟩ := zA_plr h hl hi nh
  obtain ⟨a1, a2, a3, a4, a5⟩ := zA_pl h hl hi
  obtain ⟨p, p1, p2⟩ := zA_to (d := d) (T := T) h hl r1 r2 a4
  rw [r3] at p2
  rw [p1, zA_near h hl hi hs p2]
theorem zA_cell_s (h : zA_now S I R X P w t m e) (hl : 0 ≤ l ∧ l < P 0) (hi : 0 ≤ i ∧ i < P (1 + l)) (nh : ¬ zt_hid P l) (hs : I (X + 135 + 11 + 9 * l + 5) i = 1) : zG (d + 10) 106 [.inr (.inr X), .inl (zA_B I X P l + I (X + 135 + 11 + 9 * l + 1) i), .inl (I (X + 135 + 11 + 9 * l + 2) i)] (S, I, R, T) = some (i, (S, I, R, T)) := by
  have hi' : 0 ≤ i ∧ i ≤ P (1 + l) := by omega
  obtain ⟨r1, r2, r3⟩ := zA_plr h hl hi' nh
  obtain ⟨a1, a2, a3, a4, a5⟩ := zA_pl h hl hi'
  have ce := zA_ce h hl hi hs
  have fp := ((zA_fp h hl).2.2 _ a1.1 a1.2).1
  have a3 := a3 hi.2
  obtain ⟨p, p1, p2⟩ := zA_cell (d := d) (T := T) h hl r1 r2 a4
  rw [r3] at p2
  have hp : p = i := by
    rcases p2 with ⟨b1, b2, ⟨b3, b4⟩, b5⟩ | ⟨b1, b2⟩
    · rcases Int.lt_trichotomy p i with g | g | g
      · have q := zA_up h hl (i := p) (j := i) (by omega) g (by omega)
        have q2 := zl_mono (zA_pic h hl).2.2.1
        have q3 := (zA_pl h hl (i := p) (by omega)).2.1
        rcases q with q | q
        · exfalso
          have q4 := (zA_pl h hl (i := p) (by omega)).2.2.1 (by omega)
          have q5 := q2 (I (X + 135 + 11 + 9 * l + 1) p + 1) (I (X + 135 + 11 + 9 * l + 1) i) (by have := (zA_pl h hl (i := p) (by omega)).1; omega) (by omega) (by omega)
          omega
        · omega
      · exact g
      · exact absurd ⟨Int.le_refl _, by omega⟩ (b5 i (by omega) g)
    · exact absurd ⟨Int.le_refl _, by omega⟩ (b2 i (by omega) (by omega))
  rw [p1, hp, if_neg (by omega)]
/-- the column behind a row; a column of a row -/
theorem zA_bh (h : zA_now S I R X P w t m e) (hl : 0 ≤ l ∧ l < P 0) (hk : 0 ≤ k ∧ k < I (X + 135 + 11 + 9 * l) 1) : (0 ≤ zl_c0 (I (X + 135 + 11 + 9 * l) 2) k ∧ zl_c0 (I (X + 135 + 11 + 9 * l) 2) k ≤ I (X + 135 + 11 + 9 * l + 8) k) ∧ (m ≠ 0 → I (X + 135 + 11 + 9 * l + 8) k ≤ w) ∧ I (X + 135 + 11 + 9 * l + 8) k ≤ 408 := by
  have pic := zA_pic h hl
  have st := zA_st h
  rw [pic.2.1, pic.2.2.2.2.2 k hk.1 hk.2]
  obtain ⟨q1, q2, q3⟩ := zl_behind pic.2.2.1 st.2.1.1 (zA_ind h) st.1.1 hk
  exact ⟨⟨q3, q1⟩, q2, zl_behind_ir pic.2.2.1 (zA_len h hl) st.2.1 (zA_ind20 h) hk⟩
theorem zA_cell_c (h : zA_now S I R X P w t m e) (hv : 0 ≤ v ∧ v < P 0) (h1 : zA_B I X P v ≤ r) (h2 : r < zA_B I X P (v + 1)) (hx : 0 ≤ c) : ∃ p, zG (d + 10) 106 [.inr (.inr X), .inl r, .inl c] (S, I, R, T) = some (p, (S, I, R, T)) ∧ ((0 ≤ p ∧ zl_c0 (I (X + 135 + 11 + 9 * v) 2) (r - zA_B I X P v) ≤ c ∧ c < I (X + 135 + 11 + 9 * v + 8) (r - zA_B I X P v)) ∨ (p = -4 ∧ ¬ (zl_c0 (I (X + 135 + 11 + 9 * v) 2) (r - zA_B I X P v) ≤ c ∧ c < I (X + 135 + 11 + 9 * v + 8) (r - zA_B I X P v)))) := by
  have pic := zA_pic h hv
  obtain ⟨nh, k1, k2, -⟩ := zA_Bv h hv h1 h2
  obtain ⟨c1, c2⟩ := zl_cover pic.2.2.1 (zA_st h).2.1.1 (r := r - zA_B I X P v) ⟨k1, k2⟩
  have b0 := (zl_beg pic.2.2.1 (r := r - zA_B I X P v) (by omega)).1
  rw [← pic.2.2.2.2.2 _ k1 k2, ← pic.2.1] at c1 c2
  obtain ⟨p, p1, p2⟩ := zA_cell (d := d) (T := T) h hv h1 h2 hx
  refine ⟨_, p1, ?_⟩
  rcases p2 with ⟨b1, b2, ⟨b3, b4⟩, b5⟩ | ⟨b1, b2⟩
  · rw [if_neg (by omega)]
    exact Or.inl ⟨by omega, c2 c p b1 b2 b3 b4⟩
  · rw [if_pos (by omega)]
    refine Or.inr ⟨rfl, fun q => ?_⟩
    obtain ⟨i, ⟨i1, i2⟩, i3⟩ := c1 c q.1 q.2
    exact b2 i i1 i2 i3
end ZA3
