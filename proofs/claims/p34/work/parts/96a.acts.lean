/-! the law: part, signOf, acts -/
section ZAc
variable {d : Nat} {S : zS} {I J J0 J1 J2 K R R' F : zI} {T : Int × Nat} {X n v l f g c k x y z r i j p w t m e a b N nd nu o u : Int} {P P2 Q Q0 Q2 : Int → Int} {σ : zM}
theorem zi_and_nn (x : Int) : 0 ≤ zi_and x 2147483647 := by
  have h : (Int32.ofInt x &&& Int32.ofInt 2147483647).toBitVec.msb = false := by
    rw [Int32.toBitVec_and, BitVec.msb_and]
    have : (Int32.ofInt 2147483647).toBitVec.msb = false := by decide
    rw [this, Bool.and_false]
  show 0 ≤ (Int32.ofInt x &&& Int32.ofInt 2147483647).toBitVec.toInt
  rw [BitVec.toInt_eq_msb_cond, h]
  simp
theorem zi_rem_b {x y : Int} (hx : 0 ≤ x ∧ x < 2147483648) (hy : 0 < y ∧ y < 2147483648) : 0 ≤ zi_rem x y ∧ zi_rem x y < y := by
  have h1 := Int.emod_nonneg x (show y ≠ 0 by omega)
  have h2 := Int.emod_lt_of_pos x hy.1
  have h3 : x.tdiv y = x / y := Int.tdiv_eq_ediv_of_nonneg hx.1
  have h4 : 0 ≤ x / y := Int.ediv_nonneg hx.1 (by omega)
  have h5 : x / y ≤ x := Int.ediv_le_self y hx.1
  have h6 : x / y * y + x % y = x := by
    rw [Int.mul_comm]
    exact Int.mul_ediv_add_emod x y
  unfold zi_rem
  rw [h3, zw_id (x := x / y) (by omega) (by omega), zw_id (x := x / y * y) (by omega) (by omega), zw_id (by omega) (by omega)]
  omega
/-- a number below n -/
def zQ (v n : Int) : Int := zi_rem (zi_and v 2147483647) n
theorem zQ_b (hn : 0 < n ∧ n < 2147483648) : 0 ≤ zQ v n ∧ zQ v n < n := zi_rem_b ⟨zi_and_nn v, (zi_and_ir v 2147483647).2⟩ hn
theorem zx_part (hn : n ≠ 0) : zG (d + 1) 138 [.inl v, .inl n] σ = some (zQ v n, σ) := by
  rw [zm_138]
  ((try simp only [zbd_conv]); simp (disch := first | assumption | omega | trivial) only [↓reduceIte, zbd_some, eq_self, Int.reduceEq, Int.reduceLT, Int.reduceLE, and_self, or_true, true_or, or_false, false_or, if_pos, if_neg, if_true, if_false, true_and, and_true, not_true_eq_false, not_false_eq_true, false_and, and_false, Option.bind_some, zq_t, zq_f, zq0, zq1, zw_id])
  rfl
theorem zx_LsignOf : ∃ c, zG (d + 2) 140 [.inl x] σ = some (c, σ) ∧ zf_sign c ∧ 0 ≤ c ∧ c ≤ 127 := by
  have b1 := zQ_b (v := x) (n := 12) (by omega)
  have b2 := zQ_b (v := zi_shr x 4) (n := 26) (by omega)
  have p1 : zG (d + 1) 138 [.inl x, .inl 12] σ = some (zQ x 12, σ) := zx_part (by omega)
  have p2 : zG (d + 1) 138 [.inl (zi_shr x 4), .inl 26] σ = some (zQ (zi_shr x 4) 26, σ) := zx_part (by omega)
  generalize zQ x 12 = a at *
  generalize zQ (zi_shr x 4) 26 = b at *
  by_cases g1 : a < 3
  · refine ⟨32, ?_, ?_, by omega, by omega⟩
    · rw [zm_140]
      ((try simp only [zbd_conv]); simp (disch := first | assumption | omega | trivial) only [↓reduceIte, zbd_some, eq_self, Int.reduceEq, Int.reduceLT, Int.reduceLE, and_self, or_true, true_or, or_false, false_or, if_pos, if_neg, if_true, if_false, true_and, and_true, not_true_eq_false, not_false_eq_true, false_and, and_false, Option.bind_some, zq_t, zq_f, zq0, zq1, zw_id, p1])
    · unfold zf_sign
      omega
  · by_cases g2 : a = 3
    · refine ⟨9, ?_, ?_, by omega, by omega⟩
      · rw [zm_140]
        ((try simp only [zbd_conv]); simp (disch := first | assumption | omega | trivial) only [↓reduceIte, zbd_some, eq_self, Int.reduceEq, Int.reduceLT, Int.reduceLE, and_self, or_true, true_or, or_false, false_or, if_pos, if_neg, if_true, if_false, true_and, and_true, not_true_eq_false, not_false_eq_true, false_and, and_false, Option.bind_some, zq_t, zq_f, zq0, zq1, zw_id, p1])
      · unfold zf_sign
        omega
    · by_cases g3 : a < 6
      · refine ⟨65 + b, ?_, ?_, by omega, by omega⟩
        · rw [zm_140]
          ((try simp only [zbd_conv]); simp (disch := first | assumption | omega | trivial) only [↓reduceIte, zbd_some, eq_self, Int.reduceEq, Int.reduceLT, Int.reduceLE, and_self, or_true, true_or, or_false, false_or, if_pos, if_neg, if_true, if_false, true_and, and_true, not_true_eq_false, not_false_eq_true, false_and, and_false, Option.bind_some, zq_t, zq_f, zq0, zq1, zw_id, p1, p2])
        · unfold zf_sign
          omega
      · by_cases g4 : a = 6
        · refine ⟨126, ?_, ?_, by omega, by omega⟩
          · rw [zm_140]
            ((try simp only [zbd_conv]); simp (disch := first | assumption | omega | trivial) only [↓reduceIte, zbd_some, eq_self, Int.reduceEq, Int.reduceLT, Int.reduceLE, and_self, or_true, true_or, or_false, false_or, if_pos, if_neg, if_true, if_false, true_and, and_true, not_true_eq_false, not_false_eq_true, false_and, and_false, Option.bind_some, zq_t, zq_f, zq0, zq1, zw_id, p1])
          · unfold zf_sign
            omega
        · by_cases g5 : a = 7
          · refine ⟨45, ?_, ?_, by omega, by omega⟩
            · rw [zm_140]
              ((try simp only [zbd_conv]); simp (disch := first | assumption | omega | trivial) only [↓reduceIte, zbd_some, eq_self, Int.reduceEq, Int.reduceLT, Int.reduceLE, and_self, or_true, true_or, or_false, false_or, if_pos, if_neg, if_true, if_false, true_and, and_true, not_true_eq_false, not_false_eq_true, false_and, and_false, Option.bind_some, zq_t, zq_f, zq0, zq1, zw_id, p1])
            · unfold zf_sign
              omega
          · refine ⟨97 + b, ?_, ?_, by omega, by omega⟩
            · rw [zm_140]
              ((try simp only [zbd_conv]); simp (disch := first | assumption | omega | trivial) only [↓reduceIte, zbd_some, eq_self, Int.reduceEq, Int.reduceLT, Int.reduceLE, and_self, or_true, true_or, or_false, false_or, if_pos, if_neg, if_true, if_false, true_and, and_true, not_true_eq_false, not_false_eq_true, false_and, and_false, Option.bind_some, zq_t, zq_f, zq0, zq1, zw_id, p1, p2])
            · unfold zf_sign
              omega
/-- some state -/
def zA_ex (S : zS) (I R : zI) (X : Int) : Prop := ∃ (P : Int → Int) (w t m e nd nu : Int), zA S I R X P w t m e nd nu
theorem zA_r1 (h : zA_now S I R X P w t m e) : 0 ≤ zk_sm (fun l => P (1 + l)) (P 0) := (zk_sm_ir (g := fun l => P (1 + l)) (m := 40) (n := P 0) (by have := (zA_pg h).1; omega) (fun k k1 k2 => zA_len h ⟨k1, k2⟩)).1
/-- an edit by a number -/
theorem zS_edit (h : zA S I R X P w t m e nd nu) (hx : zQ x 12 ≤ 4) : ∃ y J R', zG (d + 11) 149 [.inr (.inr X), .inl x] (S, I, R, T) = some (y, (S, J, R', T)) ∧ ((y = 0 ∧ J = I ∧ R' = R) ∨ (y = 1 ∧ ∃ P2 nd2, 1 ≤ nd2 ∧ zA S J R' X P2 w t m e nd2 0 ∧ zv_rep J (R' (X + 6) (nd2 - 1)) P)) := by
  have hn := h.1
  have x1 := zcl_x1 hn.1
  have ru10 := zA_rule10 (d := d) (I := I) (T := T) hn.1
  have ru1 := zA_rule1 (d := d) (T := T) hn
  have ru0 := zA_rule0 (d := d) (T := T) hn
  have b := zQ_b (v := x) (n := 12) (by omega)
  have pt : ∀ v n, n ≠ 0 → zG (d + 10) 138 [.inl v, .inl n] (S, I, R, T) = some (zQ v n, (S, I, R, T)) := fun v n hn => zx_part (d := d + 9) hn
  have p1 := pt x 12 (by omega)
  obtain ⟨c, s1, s2, s3⟩ := zx_LsignOf (d := d + 8) (x := zi_shr x 4) (σ := (S, I, R, T))
  rcases (show zQ x 12 = 0 ∨ zQ x 12 = 1 ∨ zQ x 12 = 2 ∨ zQ x 12 = 3 ∨ zQ x 12 = 4 by omega) with g | g | g | g | g
  · rw [g] at p1
    obtain ⟨v, J, R', e1, e2⟩ := zA_type (d := d) (T := T) h s2
    rcases e2 with ⟨e2, e3, e4⟩ | ⟨e2, e3⟩
    · refine ⟨0, J, R', ?_, Or.inl ⟨rfl, e3, e4⟩⟩
      rw [zm_149]
      ((try simp only [zbd_conv]); simp (disch := first | assumption | omega | trivial) only [↓reduceIte, zbd_some, eq_self, Int.reduceEq, Int.reduceLT, Int.reduceLE, and_self, or_true, true_or, or_false, false_or, if_pos, if_neg, if_true, if_false, true_and, and_true, not_true_eq_false, not_false_eq_true, false_and, and_false, Option.bind_some, zq_t, zq_f, zq0, zq1, zw_id, x1, ru10, ru1, ru0, p1, s1, e1])
    · refine ⟨1, J, R', ?_, Or.inr ⟨rfl, e3⟩⟩
      rw [zm_149]
      ((try simp only [zbd_conv]); simp (disch := first | assumption | omega | trivial) only [↓reduceIte, zbd_some, eq_self, Int.reduceEq, Int.reduceLT, Int.reduceLE, and_self, or_true, true_or, or_false, false_or, if_pos, if_neg, if_true, if_false, true_and, and_true, not_true_eq_false, not_false_eq_true, false_and, and_false, Option.bind_some, zq_t, zq_f, zq0, zq1, zw_id, x1, ru10, ru1, ru0, p1, s1, e1])
  · rw [g] at p1
    obtain ⟨v, J, R', e1, e2⟩ := zA_type (d := d) (T := T) h s2
    rcases e2 with ⟨e2, e3, e4⟩ | ⟨e2, e3⟩
    · refine ⟨0, J, R', ?_, Or.inl ⟨rfl, e3, e4⟩⟩
      rw [zm_149]
      ((try simp only [zbd_conv]); simp (disch := first | assumption | omega | trivial) only [↓reduceIte, zbd_some, eq_self, Int.reduceEq, Int.reduceLT, Int.reduceLE, and_self, or_true, true_or, or_false, false_or, if_pos, if_neg, if_true, if_false, true_and, and_true, not_true_eq_false, not_false_eq_true, false_and, and_false, Option.bind_some, zq_t, zq_f, zq0, zq1, zw_id, x1, ru10, ru1, ru0, p1, s1, e1])
    · refine ⟨1, J, R', ?_, Or.inr ⟨rfl, e3⟩⟩
      rw [zm_149]
      ((try simp only [zbd_conv]); simp (disch := first | assumption | omega | trivial) only [↓reduceIte, zbd_some, eq_self, Int.reduceEq, Int.reduceLT, Int.reduceLE, and_self, or_true, true_or, or_false, false_or, if_pos, if_neg, if_true, if_false, true_and, and_true, not_true_eq_false, not_false_eq_true, false_and, and_false, Option.bind_some, zq_t, zq_f, zq0, zq1, zw_id, x1, ru10, ru1, ru0, p1, s1, e1])
  · rw [g] at p1
    obtain ⟨v, J, R', e1, e2⟩ := zA_type (d := d) (T := T) h s2
    rcases e2 with ⟨e2, e3, e4⟩ | ⟨e2, e3⟩
    · refine ⟨0, J, R', ?_, Or.inl ⟨rfl, e3, e4⟩⟩
      rw [zm_149]
      ((try simp only [zbd_conv]); simp (disch := first | assumption | omega | trivial) only [↓reduceIte, zbd_some, eq_self, Int.reduceEq, Int.reduceLT, Int.reduceLE, and_self, or_true, true_or, or_false, false_or, if_pos, if_neg, if_true, if_false, true_and, and_true, not_true_eq_false, not_false_eq_true, false_and, and_false, Option.bind_some, zq_t, zq_f, zq0, zq1, zw_id, x1, ru10, ru1, ru0, p1, s1, e1])
    · refine ⟨1, J, R', ?_, Or.inr ⟨rfl, e3⟩⟩
      rw [zm_149]
      ((try simp only [zbd_conv]); simp (disch := first | assumption | omega | trivial) only [↓reduceIte, zbd_some, eq_self, Int.reduceEq, Int.reduceLT, Int.reduceLE, and_self, or_true, true_or, or_false, false_or, if_pos, if_neg, if_true, if_false, true_and, and_true, not_true_eq_false, not_false_eq_true, false_and, and_false, Option.bind_some, zq_t, zq_f, zq0, zq1, zw_id, x1, ru10, ru1, ru0, p1, s1, e1])
  · rw [g] at p1
    obtain ⟨v, J, R', e1, e2⟩ := zA_erase (d := d) (T := T) h
    rcases e2 with ⟨e2, e3, e4⟩ | ⟨e2, e3⟩
    · refine ⟨0, J, R', ?_, Or.inl ⟨rfl, e3, e4⟩⟩
      rw [zm_149]
      ((try simp only [zbd_conv]); simp (disch := first | assumption | omega | trivial) only [↓reduceIte, zbd_some, eq_self, Int.reduceEq, Int.reduceLT, Int.reduceLE, and_self, or_true, true_or, or_false, false_or, if_pos, if_neg, if_true, if_false, true_and, and_true, not_true_eq_false, not_false_eq_true, false_and, and_false, Option.bind_some, zq_t, zq_f, zq0, zq1, zw_id, x1, ru10, ru1, ru0, p1, e1])
    · refine ⟨1, J, R', ?_, Or.inr ⟨rfl, e3⟩⟩
      rw [zm_149]
      ((try simp only [zbd_conv]); simp (disch := first | assumption | omega | trivial) only [↓reduceIte, zbd_some, eq_self, Int.reduceEq, Int.reduceLT, Int.reduceLE, and_self, or_true, true_or, or_false, false_or, if_pos, if_neg, if_true, if_false, true_and, and_true, not_true_eq_false, not_false_eq_true, false_and, and_false, Option.bind_some, zq_t, zq_f, zq0, zq1, zw_id, x1, ru10, ru1, ru0, p1, e1])
  · rw [g] at p1
    obtain ⟨v, J, R', e1, e2⟩ := zA_split (d := d) (T := T) h
    rcases e2 with ⟨e2, e3, e4⟩ | ⟨e2, e3⟩
    · refine ⟨0, J, R', ?_, Or.inl ⟨rfl, e3, e4⟩⟩
      rw [zm_149]
      ((try simp only [zbd_conv]); simp (disch := first | assumption | omega | trivial) only [↓reduceIte, zbd_some, eq_self, Int.reduceEq, Int.reduceLT, Int.reduceLE, and_self, or_true, true_or, or_false, false_or, if_pos, if_neg, if_true, if_false, true_and, and_true, not_true_eq_false, not_false_eq_true, false_and, and_false, Option.bind_some, zq_t, zq_f, zq0, zq1, zw_id, x1, ru10, ru1, ru0, p1, e1])
    · refine ⟨1, J, R', ?_, Or.inr ⟨rfl, e3⟩⟩
      rw [zm_149]
      ((try simp only [zbd_conv]); simp (disch := first | assumption | omega | trivial) only [↓reduceIte, zbd_some, eq_self, Int.reduceEq, Int.reduceLT, Int.reduceLE, and_self, or_true, true_or, or_false, false_or, if_pos, if_neg, if_true, if_false, true_and, and_true, not_true_eq_false, not_false_eq_true, false_and, and_false, Option.bind_some, zq_t, zq_f, zq0, zq1, zw_id, x1, ru10, ru1, ru0, p1, e1])
theorem zS_set (h : zA_ex S I R X) : ∃ y J, zG (d + 10) 121 [.inr (.inr X), .inl x, .inl v] (S, I, R, T) = some (y, (S, J, R, T)) ∧ zA_ex S J R X := by
  obtain ⟨P, w, t, m, e, nd, nu, h⟩ := h
  by_cases ha : zf_allow x v
  · obtain ⟨J, y, e1, e2, -⟩ := zA_setting (d := d) (T := T) h ha
    exact ⟨_, J, e1, _, _, _, _, _, _, _, e2⟩
  · exact ⟨-1, I, zA_setno h.1.1 ha, P, w, t, m, e, nd, nu, h⟩
theorem zS_acts (h : zA_ex S I R X) : ∃ y J R', zG (d + 11) 149 [.inr (.inr X), .inl x] (S, I, R, T) = some (y, (S, J, R', T)) ∧ zA_ex S J R' X := by
  obtain ⟨P, w, t, m, e, nd, nu, h⟩ := h
  by_cases gx : zQ x 12 ≤ 4
  · obtain ⟨y, J, R', e1, e2⟩ := zS_edit (d := d) (T := T) h gx
    refine ⟨y, J, R', e1, ?_⟩
    rcases e2 with ⟨-, e3, e4⟩ | ⟨-, P2, nd2, -, e3, -⟩
    · rw [e3, e4]
      exact ⟨P, w, t, m, e, nd, nu, h⟩
    · exact ⟨P2, w, t, m, e, nd2, 0, e3⟩
  · have hn := h.1
    have x1 := zcl_x1 hn.1
    have h0 := (zA_pg hn).1
    have h8 := (zA_pg hn).2.2.1
    have ru10 := zA_rule10 (d := d) (I := I) (T := T) hn.1
    have ru1 := zA_rule1 (d := d) (T := T) hn
    have ru0 := zA_rule0 (d := d) (T := T) hn
    have ru4 := zA_rule4 (d := d) (T := T) hn
    have r1 := zA_r1 hn
    have hnd : 0 ≤ I (X + 5) 1 := by
      have := h.2.2.2.1
      rw [h.2.2.1.1]
      omega
    generalize zk_sm (fun l => P (1 + l)) (P 0) = tot at ru1 r1
    have b := zQ_b (v := x) (n := 12) (by omega)
    have pt : ∀ v n, n ≠ 0 → zG (d + 10) 138 [.inl v, .inl n] (S, I, R, T) = some (zQ v n, (S, I, R, T)) := fun v n hn => zx_part (d := d + 9) hn
    have p1 := pt x 12 (by omega)
    rcases (show zQ x 12 = 5 ∨ zQ x 12 = 6 ∨ zQ x 12 = 7 ∨ zQ x 12 = 8 ∨ zQ x 12 = 9 ∨ zQ x 12 = 10 ∨ zQ x 12 = 11 by omega) with g | g | g | g | g | g | g
    · rw [g] at p1
      have b2 := zQ_b (v := zi_shr x 4) (n := 2) (by omega)
      have p2 := pt (zi_shr x 4) 2 (by omega)
      obtain ⟨y, J, e1, e2, -⟩ := zA_step (d := d) (T := T) (x := zQ (zi_shr x 4) 2) h (by omega)
      refine ⟨0, J, R, ?_, ?_⟩
      · rw [zm_149]
        ((try simp only [zbd_conv]); simp (disch := first | assumption | omega | trivial) only [↓reduceIte, zbd_some, eq_self, Int.reduceEq, Int.reduceLT, Int.reduceLE, and_self, or_true, true_or, or_false, false_or, if_pos, if_neg, if_true, if_false, true_and, and_true, not_true_eq_false, not_false_eq_true, false_and, and_false, Option.bind_some, zq_t, zq_f, zq0, zq1, zw_id, x1, ru10, ru1, ru0, p1, p2, e1])
      · rcases e2 with ⟨-, e3⟩ | ⟨v, q1, q2, q3, q4, q5⟩
        · rw [e3]; exact ⟨P, w, t, m, e, nd, nu, h⟩
        · exact ⟨_, w, t, m, e, nd, nu, zA_went_A h q1 q2 q3 q4 q5⟩
    · rw [g] at p1
      have b2 := zQ_b (v := zi_shr x 4) (n := 7) (by omega)
      have p2 := pt (zi_shr x 4) 7 (by omega)
      obtain ⟨v, p, -, -, -, -, -, e1, e2⟩ := zA_down (d := d) (T := T) (x := zQ (zi_shr x 4) 7 - 3) h (by omega) rfl rfl
      refine ⟨0, _, R, ?_, ⟨_, w, t, m, e, nd, nu, e2⟩⟩
      rw [zm_149]
      ((try simp only [zbd_conv]); simp (disch := first | assumption | omega | trivial) only [↓reduceIte, zbd_some, eq_self, Int.reduceEq, Int.reduceLT, Int.reduceLE, and_self, or_true, true_or, or_false, false_or, if_pos, if_neg, if_true, if_false, true_and, and_true, not_true_eq_false, not_false_eq_true, false_and, and_false, Option.bind_some, zq_t, zq_f, zq0, zq1, zw_id, x1, ru10, ru1, ru0, p1, p2, e1])
    · rw [g] at p1
      have b2 := zQ_b (v := zi_shr x 4) (n := 37) (by omega)
      have p2 := pt (zi_shr x 4) 37 (by omega)
      obtain ⟨y, J, e1, e2⟩ := zS_set (d := d) (T := T) (x := 0) (v := 4 + zQ (zi_shr x 4) 37) ⟨P, w, t, m, e, nd, nu, h⟩
      refine ⟨0, J, R, ?_, e2⟩
      rw [zm_149]
      ((try simp only [zbd_conv]); simp (disch := first | assumption | omega | trivial) only [↓reduceIte, zbd_some, eq_self, Int.reduceEq, Int.reduceLT, Int.reduceLE, and_self, or_true, true_or, or_false, false_or, if_pos, if_neg, if_true, if_false, true_and, and_true, not_true_eq_false, not_false_eq_true, false_and, and_false, Option.bind_some, zq_t, zq_f, zq0, zq1, zw_id, x1, ru10, ru1, ru0, p1, p2, e1])
    · rw [g] at p1
      have b2 := zQ_b (v := zi_shr x 4) (n := 3) (by omega)
      have p2 := pt (zi_shr x 4) 3 (by omega)
      have p3 := pt (zi_shr x 6) 8 (by omega)
      obtain ⟨y, J, e1, e2⟩ := zS_set (d := d) (T := T) (x := 1 + zQ (zi_shr x 4) 3) (v := zQ (zi_shr x 6) 8) ⟨P, w, t, m, e, nd, nu, h⟩
      refine ⟨0, J, R, ?_, e2⟩
      rw [zm_149]
      ((try simp only [zbd_conv]); simp (disch := first | assumption | omega | trivial) only [↓reduceIte, zbd_some, eq_self, Int.reduceEq, Int.reduceLT, Int.reduceLE, and_self, or_true, true_or, or_false, false_or, if_pos, if_neg, if_true, if_false, true_and, and_true, not_true_eq_false, not_false_eq_true, false_and, and_false, Option.bind_some, zq_t, zq_f, zq0, zq1, zw_id, x1, ru10, ru1, ru0, p1, p2, p3, e1])
    · rw [g] at p1
      have p2 := pt (zi_shr x 4) (P 0) (by omega)
      have p3 := pt (zi_shr x 7) (P 0) (by omega)
      obtain ⟨y, J, Q, e1, e2⟩ := zA_wrap (d := d) (T := T) (x := zQ (zi_shr x 4) (P 0)) (y := zQ (zi_shr x 7) (P 0)) h
      refine ⟨0, J, R, ?_, ⟨Q, w, t, m, e, nd, nu, e2⟩⟩
      rw [zm_149]
      ((try simp only [zbd_conv]); simp (disch := first | assumption | omega | trivial) only [↓reduceIte, zbd_some, eq_self, Int.reduceEq, Int.reduceLT, Int.reduceLE, and_self, or_true, true_or, or_false, false_or, if_pos, if_neg, if_true, if_false, true_and, and_true, not_true_eq_false, not_false_eq_true, false_and, and_false, Option.bind_some, zq_t, zq_f, zq0, zq1, zw_id, x1, ru10, ru1, ru0, p1, p2, p3, e1])
    · rw [g] at p1
      have p2 := pt (zi_shr x 4) (P 493 + 1) (by omega)
      have p3 := pt (zi_shr x 8) 3 (by omega)
      by_cases gv : zQ (zi_shr x 8) 3 = 0
      · obtain ⟨y, J, Q, e1, e2⟩ := zA_shut (d := d) (T := T) (k := zQ (zi_shr x 4) (P 493 + 1)) (v := 0) h
        refine ⟨0, J, R, ?_, ⟨Q, w, t, m, e, nd, nu, e2⟩⟩
        rw [zm_149]
        ((try simp only [zbd_conv]); simp (disch := first | assumption | omega | trivial) only [↓reduceIte, zbd_some, eq_self, Int.reduceEq, Int.reduceLT, Int.reduceLE, and_self, or_true, true_or, or_false, false_or, if_pos, if_neg, if_true, if_false, true_and, and_true, not_true_eq_false, not_false_eq_true, false_and, and_false, Option.bind_some, zq_t, zq_f, zq0, zq1, zw_id, x1, ru10, ru1, ru0, ru4, p1, p2, p3, e1])
      · obtain ⟨y, J, Q, e1, e2⟩ := zA_shut (d := d) (T := T) (k := zQ (zi_shr x 4) (P 493 + 1)) (v := 1) h
        refine ⟨0, J, R, ?_, ⟨Q, w, t, m, e, nd, nu, e2⟩⟩
        rw [zm_149]
        ((try simp only [zbd_conv]); simp (disch := first | assumption | omega | trivial) only [↓reduceIte, zbd_some, eq_self, Int.reduceEq, Int.reduceLT, Int.reduceLE, and_self, or_true, true_or, or_false, false_or, if_pos, if_neg, if_true, if_false, true_and, and_true, not_true_eq_false, not_false_eq_true, false_and, and_false, Option.bind_some, zq_t, zq_f, zq0, zq1, zw_id, x1, ru10, ru1, ru0, ru4, p1, p2, p3, e1])
    · rw [g] at p1
      have b2 := zQ_b (v := zi_shr x 4) (n := 2) (by omega)
      have p2 := pt (zi_shr x 4) 2 (by omega)
      obtain ⟨y, J, Q, e1, e2⟩ := zA_edge (d := d) (T := T) (x := zQ (zi_shr x 4) 2) h (by omega)
      refine ⟨0, J, R, ?_, ⟨Q, w, t, m, e, nd, nu, e2⟩⟩
      rw [zm_149]
      ((try simp only [zbd_conv]); simp (disch := first | assumption | omega | trivial) only [↓reduceIte, zbd_some, eq_self, Int.reduceEq, Int.reduceLT, Int.reduceLE, and_self, or_true, true_or, or_false, false_or, if_pos, if_neg, if_true, if_false, true_and, and_true, not_true_eq_false, not_false_eq_true, false_and, and_false, Option.bind_some, zq_t, zq_f, zq0, zq1, zw_id, x1, ru10, ru1, ru0, p1, p2, e1])
end ZAc
