/-! the law: steady -/
section ZA4
variable {d : Nat} {S : zS} {I J R : zI} {T : Int × Nat} {X n v l f c k x y z r i j p w t m e a b N : Int} {P Q : Int → Int}
/-- the columns of a row -/
theorem zS_216 (h : zA_now S I R X P w t m e) (hv : 0 ≤ v ∧ v < P 0) (h1 : zA_B I X P v ≤ r) (h2 : r < zA_B I X P (v + 1)) {res : zR} {W : Nat} {pl : Int} (hk : ∀ w', W ≤ w' → zi_run zt_147 (zG (d + 10)) w' 13 [some (.inr (.inr X)), some (.inl N), some (.inl v), some (.inl pl), some (.inl (r + 1)), none, none, none, none] [] (S, I, R, T) = res) : ∀ (u : Nat) (x s : Int) (w' : Nat), (u : Int) + x = I (X + 135 + 11 + 9 * v + 8) (r - zA_B I X P v) → 0 ≤ x → ((x ≤ zl_c0 (I (X + 135 + 11 + 9 * v) 2) (r - zA_B I X P v) ∧ s = 0) ∨ (zl_c0 (I (X + 135 + 11 + 9 * v) 2) (r - zA_B I X P v) < x ∧ s = x - zl_c0 (I (X + 135 + 11 + 9 * v) 2) (r - zA_B I X P v))) → W + u + 1 ≤ w' → zi_run zt_147 (zG (d + 10)) w' 216 [some (.inr (.inr X)), some (.inl N), some (.inl v), some (.inl pl), some (.inl r), none, some (.inl s), some (.inl x), none] [] (S, I, R, T) = res := by
  have x1 := zcl_x1 h.1
  obtain ⟨nh, k1, k2, r0, r1⟩ := zA_Bv h hv h1 h2
  have bt := zA_Bt h
  obtain ⟨⟨b1, b2⟩, b3, b4⟩ := zA_bh h hv ⟨k1, k2⟩
  have row3 := zA_row3 (d := d) (T := T) h hv h1 h2
  have row4 := zA_row4 (d := d) (T := T) h hv h1 h2
  have cel := fun c hx => zA_cell_c (d := d) (T := T) (c := c) h hv h1 h2 hx
  generalize I (X + 135 + 11 + 9 * v + 8) (r - zA_B I X P v) = K at *
  generalize zl_c0 (I (X + 135 + 11 + 9 * v) 2) (r - zA_B I X P v) = c0 at *
  intro u
  induction u with
  | zero =>
    intro x s w' e1 e2 e3 e4
    obtain ⟨w', rfl⟩ : ∃ w'', w' = w'' + 1 := ⟨w' - 1, by omega⟩
    obtain ⟨p, p1, p2⟩ := cel K (by omega)
    have hp : p = -4 := by
      rcases p2 with q | q
      · omega
      · exact q.1
    subst hp
    rw [zk_147_216]
    by_cases g : 0 < c0
    · obtain ⟨p', p3, p4⟩ := cel (c0 - 1) (by omega)
      have hp' : p' = -4 := by
        rcases p4 with q | q
        · omega
        · exact q.1
      subst hp'
      ((try simp only [zbd_conv]); simp (disch := first | assumption | omega | trivial) only [↓reduceIte, zbd_some, eq_self, Int.reduceEq, Int.reduceLT, Int.reduceLE, and_self, or_true, true_or, or_false, false_or, if_pos, if_neg, if_true, if_false, true_and, and_true, not_true_eq_false, not_false_eq_true, false_and, and_false, Option.bind_some, zq_t, zq_f, zq0, zq1, zw_id, x1, row3, row4, p1, p3])
      exact hk w' (by omega)
    · ((try simp only [zbd_conv]); simp (disch := first | assumption | omega | trivial) only [↓reduceIte, zbd_some, eq_self, Int.reduceEq, Int.reduceLT, Int.reduceLE, and_self, or_true, true_or, or_false, false_or, if_pos, if_neg, if_true, if_false, true_and, and_true, not_true_eq_false, not_false_eq_true, false_and, and_false, Option.bind_some, zq_t, zq_f, zq0, zq1, zw_id, x1, row3, row4, p1])
      exact hk w' (by omega)
  | succ u ih =>
    intro x s w' e1 e2 e3 e4
    obtain ⟨w', rfl⟩ : ∃ w'', w' = w'' + 1 := ⟨w' - 1, by omega⟩
    obtain ⟨p, p1, p2⟩ := cel x e2
    rw [zk_147_216]
    by_cases g : p < 0
    · ((try simp only [zbd_conv]); simp (disch := first | assumption | omega | trivial) only [↓reduceIte, zbd_some, eq_self, Int.reduceEq, Int.reduceLT, Int.reduceLE, and_self, or_true, true_or, or_false, false_or, if_pos, if_neg, if_true, if_false, true_and, and_true, not_true_eq_false, not_false_eq_true, false_and, and_false, Option.bind_some, zq_t, zq_f, zq0, zq1, zw_id, x1, row4, p1, Int.add_zero])
      exact ih (x + 1) s w' (by omega) (by omega) (by omega) (by omega)
    · ((try simp only [zbd_conv]); simp (disch := first | assumption | omega | trivial) only [↓reduceIte, zbd_some, eq_self, Int.reduceEq, Int.reduceLT, Int.reduceLE, and_self, or_true, true_or, or_false, false_or, if_pos, if_neg, if_true, if_false, true_and, and_true, not_true_eq_false, not_false_eq_true, false_and, and_false, Option.bind_some, zq_t, zq_f, zq0, zq1, zw_id, x1, row4, p1])
      exact ih (x + 1) (s + 1) w' (by omega) (by omega) (by omega) (by omega)
/-- the lines between -/
theorem zS_145 (h : zA_now S I R X P w t m e) (hv : 0 ≤ v ∧ v < P 0) (h1 : zA_B I X P v ≤ r) (h2 : r < zA_B I X P (v + 1)) {res : zR} {W : Nat} (hk : ∀ w', W ≤ w' → zi_run zt_147 (zG (d + 10)) w' 216 [some (.inr (.inr X)), some (.inl N), some (.inl v), some (.inl (I (X + 135 + 11 + 9 * v + 7) (r - zA_B I X P v + 1))), some (.inl r), none, some (.inl 0), some (.inl 0), none] [] (S, I, R, T) = res) : ∀ (u : Nat) (x : Int) (w' : Nat), v ≤ x + u → 0 ≤ x → (∀ y, x ≤ y → y < v → zt_hid P y) → W + u + 1 ≤ w' → zi_run zt_147 (zG (d + 10)) w' 145 [some (.inr (.inr X)), some (.inl N), none, none, some (.inl r), some (.inl v), some (.inl x), none, none] [] (S, I, R, T) = res := by
  have x1 := zcl_x1 h.1
  obtain ⟨nh, k1, k2, r0, r1⟩ := zA_Bv h hv h1 h2
  have bt := zA_Bt h
  have st := zA_st h
  have h0 := (zA_pg h).1
  obtain ⟨⟨b1, b2⟩, b3, b4⟩ := zA_bh h hv ⟨k1, k2⟩
  have row2 := zA_row2 (d := d) (T := T) h hv h1 h2
  have row4 := zA_row4 (d := d) (T := T) h hv h1 h2
  have rul8 := zA_rule8 (d := d) (T := T) h
  have rul6 := zA_rule6 (d := d) (T := T) h
  have fin : ∀ x w', v ≤ x → W ≤ w' → zi_run zt_147 (zG (d + 10)) (w' + 1) 145 [some (.inr (.inr X)), some (.inl N), none, none, some (.inl r), some (.inl v), some (.inl x), none, none] [] (S, I, R, T) = res := by
    intro x w' e1 e2
    rw [zk_147_145]
    by_cases g : 0 < m
    · have b3 := b3 (by omega)
      ((try simp only [zbd_conv]); simp (disch := first | assumption | omega | trivial) only [↓reduceIte, zbd_some, eq_self, Int.reduceEq, Int.reduceLT, Int.reduceLE, and_self, or_true, true_or, or_false, false_or, if_pos, if_neg, if_true, if_false, true_and, and_true, not_true_eq_false, not_false_eq_true, false_and, and_false, Option.bind_some, zq_t, zq_f, zq0, zq1, zw_id, x1, row2, row4, rul8, rul6])
      exact hk w' e2
    · ((try simp only [zbd_conv]); simp (disch := first | assumption | omega | trivial) only [↓reduceIte, zbd_some, eq_self, Int.reduceEq, Int.reduceLT, Int.reduceLE, and_self, or_true, true_or, or_false, false_or, if_pos, if_neg, if_true, if_false, true_and, and_true, not_true_eq_false, not_false_eq_true, false_and, and_false, Option.bind_some, zq_t, zq_f, zq0, zq1, zw_id, x1, row2, row4, rul8, rul6])
      exact hk w' e2
  intro u
  induction u with
  | zero =>
    intro x w' e1 e2 e3 e4
    obtain ⟨w', rfl⟩ : ∃ w'', w' = w'' + 1 := ⟨w' - 1, by omega⟩
    exact fin x w' (by omega) (by omega)
  | succ u ih =>
    intro x w' e1 e2 e3 e4
    obtain ⟨w', rfl⟩ : ∃ w'', w' = w'' + 1 := ⟨w' - 1, by omega⟩
    by_cases g : v ≤ x
    · exact fin x w' g (by omega)
    · have li := zA_line2 (d := d) (T := T) h (l := x) (by omega)
      rw [zt_if_t (e3 x (Int.le_refl _) (by omega))] at li
      rw [zk_147_145]
      ((try simp only [zbd_conv]); simp (disch := first | assumption | omega | trivial) only [↓reduceIte, zbd_some, eq_self, Int.reduceEq, Int.reduceLT, Int.reduceLE, and_self, or_true, true_or, or_false, false_or, if_pos, if_neg, if_true, if_false, true_and, and_true, not_true_eq_false, not_false_eq_true, false_and, and_false, Option.bind_some, zq_t, zq_f, zq0, zq1, zw_id, x1, li])
      exact ih (x + 1) w' (by omega) (by omega) (fun y y1 y2 => e3 y (by omega) y2) (by omega)
set_option maxRecDepth 10000 in
/-- a row, behind the look at where it begins -/
theorem zS_80 (h : zA_now S I R X P w t m e) (hv : 0 ≤ v ∧ v < P 0) (h1 : zA_B I X P v ≤ r) (h2 : r < zA_B I X P (v + 1)) {res : zR} {W : Nat} (hx : -1 ≤ x ∧ x ≤ v) (hx2 : x = v → zA_B I X P v < r) (hh : ∀ y, x < y → y < v → zt_hid P y) (hk : ∀ w', W ≤ w' → zi_run zt_147 (zG (d + 10)) w' 13 [some (.inr (.inr X)), some (.inl N), some (.inl v), some (.inl (I (X + 135 + 11 + 9 * v + 7) (r - zA_B I X P v + 1))), some (.inl (r + 1)), none, none, none, none] [] (S, I, R, T) = res) {w' : Nat} (hw : W + 428 ≤ w') : zi_run zt_147 (zG (d + 10)) w' 80 [some (.inr (.inr X)), some (.inl N), some (.inl x), none, some (.inl r), some (.inl v), none, none, none] [] (S, I, R, T) = res := by
  have x1 := zcl_x1 h.1
  obtain ⟨nh, k1, k2, r0, r1⟩ := zA_Bv h hv h1 h2
  have bt := zA_Bt h
  have h0 := (zA_pg h).1
  obtain ⟨⟨b1, b2⟩, b3, b4⟩ := zA_bh h hv ⟨k1, k2⟩
  have g216 := zS_216 (d := d) (T := T) (N := N) h hv h1 h2 hk
  have g145 := zS_145 (d := d) (T := T) (N := N) (W := W + 410) h hv h1 h2 (fun w' hw' => g216 (I (X + 135 + 11 + 9 * v + 8) (r - zA_B I X P v)).toNat 0 0 w' (by omega) (by omega) (by omega) (by omega))
  obtain ⟨w', rfl⟩ : ∃ w'', w' = w'' + 1 := ⟨w' - 1, by omega⟩
  rw [zk_147_80]
  by_cases g : v = x
  · subst g
    have hr := hx2 rfl
    have row1 := zA_row1 (d := d) (T := T) h hv h1 h2
    have row2 := zA_row2 (d := d) (T := T) h hv h1 h2
    have row3 := zA_row3 (d := d) (T := T) h hv h1 h2
    have li3 := zA_line3 (d := d) (T := T) h hv
    obtain ⟨f1, f2, f3, f4⟩ := (zA_fp h hv).2.2 _ k1 k2
    have f2 := f2 (by omega)
    have at2 := zA_at2 (d := d) (T := T) h hv (i := I (X + 135 + 11 + 9 * v + 7) (r - zA_B I X P v)) (by omega)
    have c0 : zl_c0 (I (X + 135 + 11 + 9 * v) 2) (r - zA_B I X P v) = I (X + 135 + 11 + 9 * v) 2 := by
      unfold zl_c0
      rw [if_neg (by omega)]
    rw [c0] at row3
    ((try simp only [zbd_conv]); simp (disch := first | assumption | omega | trivial) only [↓reduceIte, zbd_some, eq_self, Int.reduceEq, Int.reduceLT, Int.reduceLE, and_self, or_true, true_or, or_false, false_or, if_pos, if_neg, if_true, if_false, true_and, and_true, not_true_eq_false, not_false_eq_true, false_and, and_false, Option.bind_some, zq_t, zq_f, zq0, zq1, zw_id, x1, row1, row2, row3, li3, at2, f4])
    exact g145 0 (v + 1) w' (by omega) (by omega) (fun y y1 y2 => by omega) (by omega)
  · ((try simp only [zbd_conv]); simp (disch := first | assumption | omega | trivial) only [↓reduceIte, zbd_some, eq_self, Int.reduceEq, Int.reduceLT, Int.reduceLE, and_self, or_true, true_or, or_false, false_or, if_pos, if_neg, if_true, if_false, true_and, and_true, not_true_eq_false, not_false_eq_true, false_and, and_false, Option.bind_some, zq_t, zq_f, zq0, zq1, zw_id, x1])
    exact g145 12 (x + 1) w' (by omega) (by omega) (fun y y1 y2 => hh y (by omega) y2) (by omega)
set_option maxRecDepth 10000 in
/-- the rows -/
theorem zS_13 (h : zA_now S I R X P w t m e) {res : zR} {W : Nat} (hk : ∀ w', W ≤ w' → zi_run zt_147 (zG (d + 10)) w' 346 [some (.inr (.inr X)), none, none, none, some (.inl 0), none, none, none, none] [] (S, I, R, T) = res) : ∀ (u : Nat) (r x pl : Int) (w' : Nat), (u : Int) + r = zA_B I X P (P 0) → ((r = 0 ∧ x = -1 ∧ pl = 0) ∨ ((0 ≤ x ∧ x < P 0) ∧ zA_B I X P x ≤ r - 1 ∧ r - 1 < zA_B I X P (x + 1) ∧ pl = I (X + 135 + 11 + 9 * x + 7) (r - zA_B I X P x))) → W + 430 * u + 1 ≤ w' → zi_run zt_147 (zG (d + 10)) w' 13 [some (.inr (.inr X)), some (.inl (zA_B I X P (P 0))), some (.inl x), some (.inl pl), some (.inl r), none, none, none, none] [] (S, I, R, T) = res := by
  have x1 := zcl_x1 h.1
  have bt := zA_Bt h
  have h0 := (zA_pg h).1
  intro u
  induction u with
  | zero =>
    intro r x pl w' e1 e2 e3
    obtain ⟨w', rfl⟩ : ∃ w'', w' = w'' + 1 := ⟨w' - 1, by omega⟩
    obtain ⟨q1, q2, q3, q4⟩ := e2.resolve_left (fun z => by omega)
    obtain ⟨nh, k1, k2, -⟩ := zA_Bv h q1 q2 q3
    have bm := zA_Bm h (a := x + 1) (b := P 0) (by omega) (by omega) (by omega)
    have bn := zA_Bn (I := I) (X := X) q1.1 nh
    have fp := (zA_fp h q1).2.1
    have li := zA_line0 (d := d) (T := T) h q1
    have er : r - zA_B I X P x = I (X + 135 + 11 + 9 * x) 1 := by omega
    rw [er, fp] at q4
    rw [zk_147_13]
    ((try simp only [zbd_conv]); simp (disch := first | assumption | omega | trivial) only [↓reduceIte, zbd_some, eq_self, Int.reduceEq, Int.reduceLT, Int.reduceLE, and_self, or_true, true_or, or_false, false_or, if_pos, if_neg, if_true, if_false, true_and, and_true, not_true_eq_false, not_false_eq_true, false_and, and_false, Option.bind_some, zq_t, zq_f, zq0, zq1, zw_id, x1, li])
    exact hk w' (by omega)
  | succ u ih =>
    intro r x pl w' e1 e2 e3
    rw [Nat.mul_succ] at e3
    generalize 430 * u = z430 at ih e3
    obtain ⟨w', rfl⟩ : ∃ w'', w' = w'' + 1 := ⟨w' - 1, by omega⟩
    have fuel : W + z430 + 1 + 428 ≤ w' := by
      clear ih
      omega
    obtain ⟨v, hv, h1, h2⟩ := zA_Bf h (r := r) (by
      rcases e2 with q | q
      · omega
      · have := zA_Bi h (v := x) (by omega)
        omega)
    obtain ⟨nh, k1, k2, r0, r1⟩ := zA_Bv h hv h1 h2
    have row0 := zA_row0 (d := d) (T := T) h hv h1 h2
    have row1 := zA_row1 (d := d) (T := T) h hv h1 h2
    have go : ∀ x, -1 ≤ x ∧ x ≤ v → (x = v → zA_B I X P v < r) → (∀ y, x < y → y < v → zt_hid P y) → ∀ w' : Nat, W + z430 + 1 + 428 ≤ w' → zi_run zt_147 (zG (d + 10)) w' 80 [some (.inr (.inr X)), some (.inl (zA_B I X P (P 0))), some (.inl x), none, some (.inl r), some (.inl v), none, none, none] [] (S, I, R, T) = res := fun x hx hx2 hh w' hw => zS_80 (d := d) (T := T) (N := zA_B I X P (P 0)) (x := x) (W := W + z430 + 1) h hv h1 h2 hx hx2 hh (fun w'' hw'' => ih (r + 1) v _ w'' (by omega) (Or.inr ⟨hv, by omega, by omega, by rw [show r + 1 - zA_B I X P v = r - zA_B I X P v + 1 by omega]⟩) hw'') (w' := w') hw
    have fp0 := (zA_fp h hv).1
    rw [zk_147_13]
    rcases e2 with ⟨q1, q2, q3⟩ | ⟨q1, q2, q3, q4⟩
    · subst q1 q2 q3
      have hb : zA_B I X P v = 0 := by
        have := zA_Bi h (v := v) (by omega)
        omega
      rw [hb] at row1
      rw [show (0 : Int) - 0 = 0 by omega, fp0] at row1
      ((try simp only [zbd_conv]); simp (disch := first | assumption | omega | trivial) only [↓reduceIte, zbd_some, eq_self, Int.reduceEq, Int.reduceLT, Int.reduceLE, and_self, or_true, true_or, or_false, false_or, if_pos, if_neg, if_true, if_false, true_and, and_true, not_true_eq_false, not_false_eq_true, false_and, and_false, Option.bind_some, zq_t, zq_f, zq0, zq1, zw_id, x1, row0, row1])
      refine go (-1) (by omega) (fun z => by omega) (fun y y1 y2 => ?_) w' fuel
      by_cases g : zt_hid P y
      · exact g
      · have g1 := zA_Bn (I := I) (X := X) (show 0 ≤ y by omega) g
        have g2 := zA_nrows h (l := y) (by omega)
        have g3 := zA_Bi h (v := y) (by omega)
        have g4 := zA_Bm h (a := y + 1) (b := v) (by omega) (by omega) (by omega)
        omega
    · have li := zA_line0 (d := d) (T := T) h q1
      by_cases g : v = x
      · subst g
        rw [← q4] at row1
        ((try simp only [zbd_conv]); simp (disch := first | assumption | omega | trivial) only [↓reduceIte, zbd_some, eq_self, Int.reduceEq, Int.reduceLT, Int.reduceLE, and_self, or_true, true_or, or_false, false_or, if_pos, if_neg, if_true, if_false, true_and, and_true, not_true_eq_false, not_false_eq_true, false_and, and_false, Option.bind_some, zq_t, zq_f, zq0, zq1, zw_id, x1, row0, row1])
        exact go v (by omega) (fun z => by omega) (fun y y1 y2 => by omega) w' fuel
      · have hxv : x < v := by
          rcases Int.lt_trichotomy v x with z | z | z
          · have := zA_Bm h (a := v + 1) (b := x) (by omega) (by omega) (by omega)
            omega
          · exact absurd z g
          · exact z
        obtain ⟨nhx, -⟩ := zA_Bv h q1 q2 q3
        have bm := zA_Bm h (a := x + 1) (b := v) (by omega) (by omega) (by omega)
        have bn := zA_Bn (I := I) (X := X) q1.1 nhx
        have fp := (zA_fp h q1).2.1
        have er : r - zA_B I X P x = I (X + 135 + 11 + 9 * x) 1 := by omega
        rw [er, fp] at q4
        have ev : r - zA_B I X P v = 0 := by omega
        rw [ev, fp0] at row1
        ((try simp only [zbd_conv]); simp (disch := first | assumption | omega | trivial) only [↓reduceIte, zbd_some, eq_self, Int.reduceEq, Int.reduceLT, Int.reduceLE, and_self, or_true, true_or, or_false, false_or, if_pos, if_neg, if_true, if_false, true_and, and_true, not_true_eq_false, not_false_eq_true, false_and, and_false, Option.bind_some, zq_t, zq_f, zq0, zq1, zw_id, x1, row0, row1, li])
        refine go x (by omega) (fun z => by omega) (fun y y1 y2 => ?_) w' fuel
        by_cases gg : zt_hid P y
        · exact gg
        · have g1 := zA_Bn (I := I) (X := X) (show 0 ≤ y by omega) gg
          have g2 := zA_nrows h (l := y) (by omega)
          have g3 := zA_Bm h (a := x + 1) (b := y) (by omega) (by omega) (by omega)
          have g4 := zA_Bm h (a := y + 1) (b := v) (by omega) (by omega) (by omega)
          omega
/-- the places of a line -/
theorem zS_362 (h : zA_now S I R X P w t m e) (hl : 0 ≤ l ∧ l < P 0) {res : zR} {W : Nat} (hk : ∀ w', W ≤ w' → zi_run zt_147 (zG (d + 10)) w' 346 [some (.inr (.inr X)), none, none, none, some (.inl (l + 1)), none, none, none, none] [] (S, I, R, T) = res) : ∀ (u : Nat) (i b : Int) (w' : Nat), (u : Int) + i = P (1 + l) + 1 → 0 ≤ i → (∀ j, i ≤ j → j ≤ P (1 + l) → I (X + 135 + 11 + 9 * l + 5) j = 1 → b < 4096 * (zA_B I X P l + I (X + 135 + 11 + 9 * l + 1) j) + I (X + 135 + 11 + 9 * l + 2) j) → W + u + 1 ≤ w' → zi_run zt_147 (zG (d + 10)) w' 362 [some (.inr (.inr X)), none, none, none, some (.inl l), some (.inl b), some (.inl i), none, none] [] (S, I, R, T) = res := by
  have x1 := zcl_x1 h.1
  have bt := zA_Bt h
  have h0 := (zA_pg h).1
  have hn := zA_len h hl
  have bi := zA_Bi h (v := l) (by omega)
  have li := zA_line0 (d := d) (T := T) h hl
  intro u
  induction u with
  | zero =>
    intro i b w' e1 e2 e3 e4
    obtain ⟨w', rfl⟩ : ∃ w'', w' = w'' + 1 := ⟨w' - 1, by omega⟩
    rw [zk_147_362]
    ((try simp only [zbd_conv]); simp (disch := first | assumption | omega | trivial) only [↓reduceIte, zbd_some, eq_self, Int.reduceEq, Int.reduceLT, Int.reduceLE, and_self, or_true, true_or, or_false, false_or, if_pos, if_neg, if_true, if_false, true_and, and_true, not_true_eq_false, not_false_eq_true, false_and, and_false, Option.bind_some, zq_t, zq_f, zq0, zq1, zw_id, x1, li])
    exact hk w' (by omega)
  | succ u ih =>
    intro i b w' e1 e2 e3 e4
    obtain ⟨w', rfl⟩ : ∃ w'', w' = w'' + 1 := ⟨w' - 1, by omega⟩
    have hi : 0 ≤ i ∧ i ≤ P (1 + l) := by omega
    have at0 := zA_at0 (d := d) (T := T) h hl hi
    have at1 := zA_at1 (d := d) (T := T) h hl hi
    have at2 := zA_at2 (d := d) (T := T) h hl hi
    rw [zk_147_362]
    by_cases g : zt_hid P l
    · rw [zt_if_t g] at at0
      ((try simp only [zbd_conv]); simp (disch := first | assumption | omega | trivial) only [↓reduceIte, zbd_some, eq_self, Int.reduceEq, Int.reduceLT, Int.reduceLE, and_self, or_true, true_or, or_false, false_or, if_pos, if_neg, if_true, if_false, true_and, and_true, not_true_eq_false, not_false_eq_true, false_and, and_false, Option.bind_some, zq_t, zq_f, zq0, zq1, zw_id, x1, li, at0])
      exact ih (i + 1) b w' (by omega) (by omega) (fun j j1 j2 j3 => e3 j (by omega) j2 j3) (by omega)
    · rw [zt_if_f g] at at0
      obtain ⟨a1, a2, a3, a4, a5⟩ := zA_pl h hl hi
      have nr := zA_nrows h hl
      rcases zA_s01 h hl hi with gs | gs
      · rw [gs] at at2
        ((try simp only [zbd_conv]); simp (disch := first | assumption | omega | trivial) only [↓reduceIte, zbd_some, eq_self, Int.reduceEq, Int.reduceLT, Int.reduceLE, and_self, or_true, true_or, or_false, false_or, if_pos, if_neg, if_true, if_false, true_and, and_true, not_true_eq_false, not_false_eq_true, false_and, and_false, Option.bind_some, zq_t, zq_f, zq0, zq1, zw_id, x1, li, at0, at2])
        exact ih (i + 1) b w' (by omega) (by omega) (fun j j1 j2 j3 => e3 j (by omega) j2 j3) (by omega)
      · rw [gs] at at2
        obtain ⟨r1, r2, r3⟩ := zA_plr h hl hi g
        have row0 := zA_row0 (d := d) (T := T) h hl r1 r2
        have tos := zA_to_s (d := d) (T := T) h hl hi g gs
        have lt := e3 i (Int.le_refl _) hi.2 gs
        have nx : ∀ j, i + 1 ≤ j → j ≤ P (1 + l) → I (X + 135 + 11 + 9 * l + 5) j = 1 → 4096 * (zA_B I X P l + I (X + 135 + 11 + 9 * l + 1) i) + I (X + 135 + 11 + 9 * l + 2) i < 4096 * (zA_B I X P l + I (X + 135 + 11 + 9 * l + 1) j) + I (X + 135 + 11 + 9 * l + 2) j := fun j j1 j2 j3 => by
          have q1 := zA_sup h hl hi.1 (show i < j by omega) j2 gs
          have q2 := (zA_pl h hl (i := j) (by omega)).2.2.2
          omega
        by_cases gn : i < P (1 + l)
        · have ces := zA_cell_s (d := d) (T := T) h hl ⟨hi.1, gn⟩ g gs
          ((try simp only [zbd_conv]); simp (disch := first | assumption | omega | trivial) only [↓reduceIte, zbd_some, eq_self, Int.reduceEq, Int.reduceLT, Int.reduceLE, and_self, or_true, true_or, or_false, false_or, if_pos, if_neg, if_true, if_false, true_and, and_true, not_true_eq_false, not_false_eq_true, false_and, and_false, Option.bind_some, zq_t, zq_f, zq0, zq1, zw_id, x1, li, at0, at1, at2, tos, row0, ces])
          exact ih (i + 1) _ w' (by omega) (by omega) nx (by omega)
        · ((try simp only [zbd_conv]); simp (disch := first | assumption | omega | trivial) only [↓reduceIte, zbd_some, eq_self, Int.reduceEq, Int.reduceLT, Int.reduceLE, and_self, or_true, true_or, or_false, false_or, if_pos, if_neg, if_true, if_false, true_and, and_true, not_true_eq_false, not_false_eq_true, false_and, and_false, Option.bind_some, zq_t, zq_f, zq0, zq1, zw_id, x1, li, at0, at1, at2, tos, row0])
          exact ih (i + 1) _ w' (by omega) (by omega) nx (by omega)
set_option maxRecDepth 10000 in
theorem zS_346 (h : zA_now S I R X P w t m e) (hs : I (X + 135 + 11 + 9 * P 518 + 5) (P 519) = 1) : ∀ (u : Nat) (l : Int) (w' : Nat), (u : Int) + l = P 0 → 0 ≤ l → 44 * u + 1 ≤ w' → zi_run zt_147 (zG (d + 10)) w' 346 [some (.inr (.inr X)), none, none, none, some (.inl l), none, none, none, none] [] (S, I, R, T) = some (1, (S, I, R, T)) := by
  have x1 := zcl_x1 h.1
  have h0 := (zA_pg h).1
  have ru := zA_rule0 (d := d) (T := T) h
  intro u
  induction u with
  | zero =>
    intro l w' e1 e2 e3
    obtain ⟨w', rfl⟩ : ∃ w'', w' = w'' + 1 := ⟨w' - 1, by omega⟩
    obtain ⟨c1, c2⟩ := zA_car h
    have ca0 := zA_caret0 (d := d) (T := T) h
    have ca1 := zA_caret1 (d := d) (T := T) h
    have ca3 := zA_caret3 (d := d) (T := T) h
    have at2 := zA_at2 (d := d) (T := T) h c1 c2
    rw [hs] at at2
    have b1 := zA_Bi h (v := P 518) (by omega)
    have b2 := (zA_pl h c1 c2).1
    rw [zk_147_346]
    ((try simp only [zbd_conv]); simp (disch := first | assumption | omega | trivial) only [↓reduceIte, zbd_some, eq_self, Int.reduceEq, Int.reduceLT, Int.reduceLE, and_self, or_true, true_or, or_false, false_or, if_pos, if_neg, if_true, if_false, true_and, and_true, not_true_eq_false, not_false_eq_true, false_and, and_false, Option.bind_some, zq_t, zq_f, zq0, zq1, zw_id, x1, ru, ca0, ca1, ca3, at2])
  | succ u ih =>
    intro l w' e1 e2 e3
    rw [Nat.mul_succ] at e3
    generalize 44 * u = z44 at ih e3
    obtain ⟨w', rfl⟩ : ∃ w'', w' = w'' + 1 := ⟨w' - 1, by omega⟩
    have hn := zA_len h (l := l) (by omega)
    have bi := zA_Bi h (v := l) (by omega)
    have go := zS_362 (d := d) (T := T) (W := z44 + 1) h (l := l) (by omega) (fun w'' hw => ih (l + 1) w'' (by omega) (by omega) hw) (P (1 + l) + 1).toNat 0 (-1) w' (by omega) (by omega) (fun j j1 j2 j3 => by
      have := zA_pl h (l := l) (i := j) (by omega) ⟨j1, j2⟩
      omega) (by omega)
    rw [zk_147_346]
    ((try simp only [zbd_conv]); simp (disch := first | assumption | omega | trivial) only [↓reduceIte, zbd_some, eq_self, Int.reduceEq, Int.reduceLT, Int.reduceLE, and_self, or_true, true_or, or_false, false_or, if_pos, if_neg, if_true, if_false, true_and, and_true, not_true_eq_false, not_false_eq_true, false_and, and_false, Option.bind_some, zq_t, zq_f, zq0, zq1, zw_id, x1, ru])
    exact go
set_option maxRecDepth 10000 in
theorem zS_steady (h : zA_now S I R X P w t m e) (hs : I (X + 135 + 11 + 9 * P 518 + 5) (P 519) = 1) : zG (d + 11) 147 [.inr (.inr X)] (S, I, R, T) = some (1, (S, I, R, T)) := by
  have x1 := zcl_x1 h.1
  have h0 := (zA_pg h).1
  have bt := zA_Bt h
  have ru := zA_rule2 (d := d) (T := T) h
  have g346 := fun w' (hw : 530 ≤ w') => zS_346 (d := d) (T := T) h hs (P 0).toNat 0 w' (by omega) (by omega) (by omega)
  have g13 := zS_13 (d := d) (T := T) h g346 (zA_B I X P (P 0)).toNat 0 (-1) 0 1019999 (by omega) (Or.inl ⟨rfl, rfl, rfl⟩) (by omega)
  rw [zm_147]
  ((try simp only [zbd_conv]); simp (disch := first | assumption | omega | trivial) only [↓reduceIte, zbd_some, eq_self, Int.reduceEq, Int.reduceLT, Int.reduceLE, and_self, or_true, true_or, or_false, false_or, if_pos, if_neg, if_true, if_false, true_and, and_true, not_true_eq_false, not_false_eq_true, false_and, and_false, Option.bind_some, zq_t, zq_f, zq0, zq1, zw_id, x1, ru])
  exact g13
end ZA4
