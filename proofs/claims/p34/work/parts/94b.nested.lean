/-! the law: nested -/
section ZA5
variable {d : Nat} {S : zS} {I J R : zI} {T : Int × Nat} {X n v l f c k x y z r i j p w t m e a b N : Int} {P Q : Int → Int} {σ : zM}
theorem zS_cross0 (h : zf_nest a b x y) (h1 : a < b) (h2 : x < y) : zG (d + 1) 142 [.inl a, .inl b, .inl x, .inl y] σ = some (0, σ) := by
  unfold zf_nest at h
  rw [zm_142]
  by_cases g : b < x
  · by_cases g2 : y < a
    · ((try simp only [zbd_conv]); simp (disch := first | assumption | omega | trivial) only [↓reduceIte, zbd_some, eq_self, Int.reduceEq, Int.reduceLT, Int.reduceLE, and_self, or_true, true_or, or_false, false_or, if_pos, if_neg, if_true, if_false, true_and, and_true, not_true_eq_false, not_false_eq_true, false_and, and_false, Option.bind_some, zq_t, zq_f, zq0, zq1, zw_id])
    · ((try simp only [zbd_conv]); simp (disch := first | assumption | omega | trivial) only [↓reduceIte, zbd_some, eq_self, Int.reduceEq, Int.reduceLT, Int.reduceLE, and_self, or_true, true_or, or_false, false_or, if_pos, if_neg, if_true, if_false, true_and, and_true, not_true_eq_false, not_false_eq_true, false_and, and_false, Option.bind_some, zq_t, zq_f, zq0, zq1, zw_id])
  · by_cases g2 : y < a
    · ((try simp only [zbd_conv]); simp (disch := first | assumption | omega | trivial) only [↓reduceIte, zbd_some, eq_self, Int.reduceEq, Int.reduceLT, Int.reduceLE, and_self, or_true, true_or, or_false, false_or, if_pos, if_neg, if_true, if_false, true_and, and_true, not_true_eq_false, not_false_eq_true, false_and, and_false, Option.bind_some, zq_t, zq_f, zq0, zq1, zw_id])
    · ((try simp only [zbd_conv]); simp (disch := first | assumption | omega | trivial) only [↓reduceIte, zbd_some, eq_self, Int.reduceEq, Int.reduceLT, Int.reduceLE, and_self, or_true, true_or, or_false, false_or, if_pos, if_neg, if_true, if_false, true_and, and_true, not_true_eq_false, not_false_eq_true, false_and, and_false, Option.bind_some, zq_t, zq_f, zq0, zq1, zw_id])
theorem zS_46 (h : zA_now S I R X P w t m e) (hk : 0 ≤ k ∧ k < P 493) {res : zR} {W : Nat} (hh : ∀ w', W ≤ w' → zi_run zt_148 (zG (d + 10)) w' 2 [some (.inr (.inr X)), some (.inl (k + 1)), none] [] (S, I, R, T) = res) : ∀ (u : Nat) (j : Int) (w' : Nat), (u : Int) + j = P 493 → k < j → W + u + 1 ≤ w' → zi_run zt_148 (zG (d + 10)) w' 46 [some (.inr (.inr X)), some (.inl k), some (.inl j)] [] (S, I, R, T) = res := by
  have x1 := zcl_x1 h.1
  obtain ⟨g1, g2, g3, g4, g5, g6⟩ := zA_pg h
  have ru := zA_rule4 (d := d) (T := T) h
  have k0 := zA_fold0 (d := d) (T := T) h hk
  have k1 := zA_fold1 (d := d) (T := T) h hk
  have ka := (g4 k hk.1 hk.2).1
  intro u
  induction u with
  | zero =>
    intro j w' e1 e2 e3
    obtain ⟨w', rfl⟩ : ∃ w'', w' = w'' + 1 := ⟨w' - 1, by omega⟩
    rw [zk_148_46]
    ((try simp only [zbd_conv]); simp (disch := first | assumption | omega | trivial) only [↓reduceIte, zbd_some, eq_self, Int.reduceEq, Int.reduceLT, Int.reduceLE, and_self, or_true, true_or, or_false, false_or, if_pos, if_neg, if_true, if_false, true_and, and_true, not_true_eq_false, not_false_eq_true, false_and, and_false, Option.bind_some, zq_t, zq_f, zq0, zq1, zw_id, x1, ru])
    exact hh w' (by omega)
  | succ u ih =>
    intro j w' e1 e2 e3
    obtain ⟨w', rfl⟩ : ∃ w'', w' = w'' + 1 := ⟨w' - 1, by omega⟩
    have j0 := zA_fold0 (d := d) (T := T) h (k := j) (by omega)
    have j1 := zA_fold1 (d := d) (T := T) h (k := j) (by omega)
    have ja := (g4 j (by omega) (by omega)).1
    have ne := g5 k j hk.1 e2 (by omega)
    have cr := zS_cross0 (d := d + 9) (σ := (S, I, R, T)) ne ka.2.1 ja.2.1
    unfold zf_nest at ne
    rw [zk_148_46]
    by_cases g : P (494 + 3 * k) = P (494 + 3 * j)
    · ((try simp only [zbd_conv]); simp (disch := first | assumption | omega | trivial) only [↓reduceIte, zbd_some, eq_self, Int.reduceEq, Int.reduceLT, Int.reduceLE, and_self, or_true, true_or, or_false, false_or, if_pos, if_neg, if_true, if_false, true_and, and_true, not_true_eq_false, not_false_eq_true, false_and, and_false, Option.bind_some, zq_t, zq_f, zq0, zq1, zw_id, x1, ru, k0, k1, j0, j1, cr])
      exact ih (j + 1) w' (by omega) (by omega) (by omega)
    · ((try simp only [zbd_conv]); simp (disch := first | assumption | omega | trivial) only [↓reduceIte, zbd_some, eq_self, Int.reduceEq, Int.reduceLT, Int.reduceLE, and_self, or_true, true_or, or_false, false_or, if_pos, if_neg, if_true, if_false, true_and, and_true, not_true_eq_false, not_false_eq_true, false_and, and_false, Option.bind_some, zq_t, zq_f, zq0, zq1, zw_id, x1, ru, k0, k1, j0, j1, cr])
      exact ih (j + 1) w' (by omega) (by omega) (by omega)
theorem zS_2 (h : zA_now S I R X P w t m e) : ∀ (u : Nat) (k : Int) (w' : Nat), (u : Int) + k = P 493 → 0 ≤ k → 12 * u + 1 ≤ w' → zi_run zt_148 (zG (d + 10)) w' 2 [some (.inr (.inr X)), some (.inl k), none] [] (S, I, R, T) = some (1, (S, I, R, T)) := by
  have x1 := zcl_x1 h.1
  obtain ⟨g1, g2, g3, g4, g5, g6⟩ := zA_pg h
  have ru := zA_rule4 (d := d) (T := T) h
  have ru0 := zA_rule0 (d := d) (T := T) h
  intro u
  induction u with
  | zero =>
    intro k w' e1 e2 e3
    obtain ⟨w', rfl⟩ : ∃ w'', w' = w'' + 1 := ⟨w' - 1, by omega⟩
    rw [zk_148_2]
    ((try simp only [zbd_conv]); simp (disch := first | assumption | omega | trivial) only [↓reduceIte, zbd_some, eq_self, Int.reduceEq, Int.reduceLT, Int.reduceLE, and_self, or_true, true_or, or_false, false_or, if_pos, if_neg, if_true, if_false, true_and, and_true, not_true_eq_false, not_false_eq_true, false_and, and_false, Option.bind_some, zq_t, zq_f, zq0, zq1, zw_id, x1, ru])
  | succ u ih =>
    intro k w' e1 e2 e3
    rw [Nat.mul_succ] at e3
    generalize 12 * u = z12 at ih e3
    obtain ⟨w', rfl⟩ : ∃ w'', w' = w'' + 1 := ⟨w' - 1, by omega⟩
    have hk : 0 ≤ k ∧ k < P 493 := by omega
    have k0 := zA_fold0 (d := d) (T := T) h hk
    have k1 := zA_fold1 (d := d) (T := T) h hk
    have ka := (g4 k hk.1 hk.2).1
    have go := zS_46 (d := d) (T := T) (W := z12 + 1) h hk (fun w'' hw => ih (k + 1) w'' (by omega) (by omega) hw) u (k + 1) w' (by omega) (by omega) (by omega)
    rw [zk_148_2]
    ((try simp only [zbd_conv]); simp (disch := first | assumption | omega | trivial) only [↓reduceIte, zbd_some, eq_self, Int.reduceEq, Int.reduceLT, Int.reduceLE, and_self, or_true, true_or, or_false, false_or, if_pos, if_neg, if_true, if_false, true_and, and_true, not_true_eq_false, not_false_eq_true, false_and, and_false, Option.bind_some, zq_t, zq_f, zq0, zq1, zw_id, x1, ru, ru0, k0, k1])
    exact go
theorem zS_nested (h : zA_now S I R X P w t m e) : zG (d + 11) 148 [.inr (.inr X)] (S, I, R, T) = some (1, (S, I, R, T)) := by
  have g3 := (zA_pg h).2.2.1
  have g2 := zS_2 (d := d) (T := T) h (P 493).toNat 0 1019999 (by omega) (by omega) (by omega)
  rw [zm_148]
  exact g2
end ZA5
