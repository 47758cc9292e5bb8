/-! the class: folds are edited -/
section ZFo
variable {d : Nat} {S : zS} {I J R : zI} {T : Int × Nat} {a b i n v l f c c' m k x y : Int}
def zp_fsh (I : zI) (a n k : Int) : zI := fun q j => if (a + 1 ≤ q ∧ q ≤ a + 3) ∧ k < j ∧ j ≤ n then I q (j - 1) else I q j
def zp_fins (I : zI) (a n k x y v : Int) : zI := fun q j => if q = a ∧ j = 0 then n + 1 else if q = a + 1 ∧ j = k then x else if q = a + 2 ∧ j = k then y else if q = a + 3 ∧ j = k then v else if (a + 1 ≤ q ∧ q ≤ a + 3) ∧ k < j ∧ j ≤ n then I q (j - 1) else I q j
theorem zp_fsh_at {q j : Int} : zp_fsh I a n k q j = if (a + 1 ≤ q ∧ q ≤ a + 3) ∧ k < j ∧ j ≤ n then I q (j - 1) else I q j := rfl
def zf_pos (fs la : Int → Int) (n x y k : Int) : Prop := (0 ≤ k ∧ k ≤ n) ∧ (∀ j, k ≤ j → j < n → zf_ahead x y (fs j) (la j)) ∧ (k = 0 ∨ ¬ zf_ahead x y (fs (k - 1)) (la (k - 1)))
theorem zf_pos_uniq {fs la fs' la' : Int → Int} {k' : Int} (h : zf_pos fs la n x y k) (h' : zf_pos fs' la' n x y k') (hf : ∀ j, 0 ≤ j → j < n → fs j = fs' j ∧ la j = la' j) : k = k' := by
  obtain ⟨⟨h1, h2⟩, h3, h4⟩ := h
  obtain ⟨⟨g1, g2⟩, g3, g4⟩ := h'
  rcases Int.lt_trichotomy k k' with q | q | q
  · rcases g4 with g4 | g4
    · omega
    · have := h3 (k' - 1) (by omega) (by omega)
      rw [(hf (k' - 1) (by omega) (by omega)).1, (hf (k' - 1) (by omega) (by omega)).2] at this
      exact absurd this g4
  · exact q
  · rcases h4 with h4 | h4
    · omega
    · have := g3 (k - 1) (by omega) (by omega)
      rw [← (hf (k - 1) (by omega) (by omega)).1, ← (hf (k - 1) (by omega) (by omega)).2] at this
      exact absurd this h4
theorem zx_add (h : zs_fo S R a) (hc : I a 0 = n) (hn : 0 ≤ n ∧ n < 8) : ∃ k, zf_pos (I (a + 1)) (I (a + 2)) n x y k ∧ zG (d + 3) 11 [.inr (.inr a), .inl x, .inl y] (S, I, R, T) = some (k, (S, zp_fins I a n k x y 0, R, T)) := by
  obtain ⟨h0, h1, h2, h3, h4, h5, h6, h7⟩ := id h
  rw [zm_11]
  simp (disch := first | assumption | omega | trivial) only [if_pos, if_neg, if_true, if_false, true_and, and_true, not_true_eq_false, not_false_eq_true, false_and, and_false, Option.bind_some, zq_t, zq_f, zq0, zq1, zw_id, h1, hc]
  have key : ∀ (w : Nat) (k : Int), 0 ≤ k → k ≤ n → (∀ j, k ≤ j → j < n → zf_ahead x y (I (a + 1) j) (I (a + 2) j)) → k.toNat < w → ∃ k', zf_pos (I (a + 1)) (I (a + 2)) n x y k' ∧ zi_run zt_11 (zG (d + 2)) w 5 [some (.inr (.inr a)), some (.inl x), some (.inl y), some (.inl k)] [] (S, zp_fsh I a n k, R, T) = some (k', (S, zp_fins I a n k' x y 0, R, T)) := by
    intro w
    induction w with
    | zero => intro k _ _ _ q; omega
    | succ w ih =>
      intro k k1 k2 kp k3
      have hz : zp_fsh I a n k a 0 = n := by rw [zp_fsh_at, if_neg (by omega), hc]
      rw [zk_11_5]
      by_cases hk : 0 < k
      · have e1 : zp_fsh I a n k (a + 1) (k - 1) = I (a + 1) (k - 1) := by rw [zp_fsh_at, if_neg (by omega)]
        have e2 : zp_fsh I a n k (a + 2) (k - 1) = I (a + 2) (k - 1) := by rw [zp_fsh_at, if_neg (by omega)]
        by_cases hp : zf_ahead x y (I (a + 1) (k - 1)) (I (a + 2) (k - 1))
        · simp (disch := first | assumption | omega | trivial) only [if_pos, if_neg, if_true, if_false, true_and, and_true, not_true_eq_false, not_false_eq_true, false_and, and_false, Option.bind_some, zq_t, zq_f, zq0, zq1, zw_id, h1, h4, zx_firstOf h, zx_lastOf h, zk_pk_in, zx_ahead, e1, e2, zx_pickShut h, zx_write h]
          obtain ⟨k', p1, p2⟩ := ih (k + -1) (by omega) (by omega) (fun j j1 j2 => by
            by_cases hj : j = k - 1
            · rw [hj]; exact hp
            · exact kp j (by omega) j2) (by omega)
          refine ⟨k', p1, zr_mem ?_ p2⟩
          funext q j
          by_cases hq : a + 1 ≤ q ∧ q ≤ a + 3
          · by_cases hj : j = k
            · subst hj
              by_cases q1 : q = a + 1
              · subst q1; simp (disch := first | assumption | omega | trivial) only [if_pos, if_neg, if_true, if_false, true_and, and_true, not_true_eq_false, not_false_eq_true, false_and, and_false, Option.bind_some, zq_t, zq_f, zq0, zq1, zw_id, zi_up_at, zp_fsh_at]
              · by_cases q2 : q = a + 2
                · subst q2; simp (disch := first | assumption | omega | trivial) only [if_pos, if_neg, if_true, if_false, true_and, and_true, not_true_eq_false, not_false_eq_true, false_and, and_false, Option.bind_some, zq_t, zq_f, zq0, zq1, zw_id, zi_up_at, zp_fsh_at]
                · obtain rfl : q = a + 3 := by omega
                  simp (disch := first | assumption | omega | trivial) only [if_pos, if_neg, if_true, if_false, true_and, and_true, not_true_eq_false, not_false_eq_true, false_and, and_false, Option.bind_some, zq_t, zq_f, zq0, zq1, zw_id, zi_up_at, zp_fsh_at]
            · by_cases hj2 : k < j ∧ j ≤ n
              · simp (disch := first | assumption | omega | trivial) only [if_pos, if_neg, if_true, if_false, true_and, and_true, not_true_eq_false, not_false_eq_true, false_and, and_false, Option.bind_some, zq_t, zq_f, zq0, zq1, zw_id, zi_up_at, zp_fsh_at]
              · simp (disch := first | assumption | omega | trivial) only [if_pos, if_neg, if_true, if_false, true_and, and_true, not_true_eq_false, not_false_eq_true, false_and, and_false, Option.bind_some, zq_t, zq_f, zq0, zq1, zw_id, zi_up_at, zp_fsh_at]
          · simp (disch := first | assumption | omega | trivial) only [if_pos, if_neg, if_true, if_false, true_and, and_true, not_true_eq_false, not_false_eq_true, false_and, and_false, Option.bind_some, zq_t, zq_f, zq0, zq1, zw_id, zi_up_at, zp_fsh_at]
        · simp (disch := first | assumption | omega | trivial) only [if_pos, if_neg, if_true, if_false, true_and, and_true, not_true_eq_false, not_false_eq_true, false_and, and_false, Option.bind_some, zq_t, zq_f, zq0, zq1, zw_id, h1, h4, zx_firstOf h, zx_lastOf h, zk_pk_in, zx_ahead, e1, e2, zx_write h, zwr, zu_ne, hz]
          exact ⟨k, ⟨⟨k1, k2⟩, kp, Or.inr hp⟩, zr_some (by (funext q j; simp only [zp_fsh, zp_fins, zi_up]; (repeat' split) <;> first | rfl | (exfalso; omega) | exact zc (by omega) (by omega) | omega))⟩
      · obtain rfl : k = 0 := by omega
        simp (disch := first | assumption | omega | trivial) only [if_pos, if_neg, if_true, if_false, true_and, and_true, not_true_eq_false, not_false_eq_true, false_and, and_false, Option.bind_some, zq_t, zq_f, zq0, zq1, zw_id, h1, zx_write h, zwr, zu_ne, hz]
        exact ⟨0, ⟨⟨by omega, by omega⟩, kp, Or.inl rfl⟩, zr_some (by (funext q j; simp only [zp_fsh, zp_fins, zi_up]; (repeat' split) <;> first | rfl | (exfalso; omega) | exact zc (by omega) (by omega) | omega))⟩
  obtain ⟨k', p1, p2⟩ := key 1019999 n (by omega) (by omega) (fun j j1 j2 => absurd j1 (by omega)) (by omega)
  exact ⟨k', p1, zr_mem (by (funext q j; simp only [zp_fsh, zi_up]; (repeat' split) <;> first | rfl | (exfalso; omega) | exact zc (by omega) (by omega) | omega)) p2⟩
def zp_fdr (I : zI) (a k b : Int) : zI := fun q j => if (a + 1 ≤ q ∧ q ≤ a + 3) ∧ k ≤ j ∧ j < b then I q (j + 1) else I q j
theorem zp_fdr_at {q j : Int} : zp_fdr I a k b q j = if (a + 1 ≤ q ∧ q ≤ a + 3) ∧ k ≤ j ∧ j < b then I q (j + 1) else I q j := rfl
end ZFo
