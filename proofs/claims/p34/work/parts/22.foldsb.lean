/-! the class: folds are edited -/
section ZFp
variable {d : Nat} {S : zS} {I J R : zI} {T : Int × Nat} {a b i n v l f c c' m k x y : Int}
theorem zx_Fclear (h : zs_fo S R a) : zG (d + 1) 12 [.inr (.inr a)] (S, I, R, T) = some (0, (S, zi_up I a 0 0, R, T)) := by
  obtain ⟨h0, h1, h2, h3, h4, h5, h6, h7⟩ := id h
  rw [zm_12]
  simp (disch := first | assumption | omega | trivial) only [if_pos, if_neg, if_true, if_false, true_and, and_true, not_true_eq_false, not_false_eq_true, false_and, and_false, Option.bind_some, zq_t, zq_f, zq0, zq1, zw_id, h1, zwr]
def zp_fsp (I : zI) (a l k : Int) : zI := fun q j => if q = a + 1 ∧ (0 ≤ j ∧ j < k) ∧ l < I (a + 1) j then I (a + 1) j + 1 else if q = a + 2 ∧ (0 ≤ j ∧ j < k) ∧ l ≤ I (a + 2) j then I (a + 2) j + 1 else I q j
theorem zp_fsp_at {q j : Int} : zp_fsp I a l k q j = if q = a + 1 ∧ (0 ≤ j ∧ j < k) ∧ l < I (a + 1) j then I (a + 1) j + 1 else if q = a + 2 ∧ (0 ≤ j ∧ j < k) ∧ l ≤ I (a + 2) j then I (a + 2) j + 1 else I q j := rfl
theorem zp_fsp_step {v1 v2 : Int} (hk : 0 ≤ k) (hv1 : v1 = if l < I (a + 1) k then I (a + 1) k + 1 else I (a + 1) k) (hv2 : v2 = if l ≤ I (a + 2) k then I (a + 2) k + 1 else I (a + 2) k) : zi_up (zi_up (zp_fsp I a l k) (a + 1) k v1) (a + 2) k v2 = zp_fsp I a l (k + 1) := by
  funext q j
  rw [zi_up_at, zi_up_at, zp_fsp_at, zp_fsp_at, hv1, hv2]
  by_cases hj : j = k
  · subst hj
    by_cases q1 : q = a + 1
    · subst q1
      by_cases g : l < I (a + 1) j <;> simp (disch := first | assumption | omega | trivial) only [if_pos, if_neg, if_true, if_false, true_and, and_true, not_true_eq_false, not_false_eq_true, false_and, and_false, Option.bind_some, zq_t, zq_f, zq0, zq1, zw_id]
    · by_cases q2 : q = a + 2
      · subst q2
        by_cases g : l ≤ I (a + 2) j <;> simp (disch := first | assumption | omega | trivial) only [if_pos, if_neg, if_true, if_false, true_and, and_true, not_true_eq_false, not_false_eq_true, false_and, and_false, Option.bind_some, zq_t, zq_f, zq0, zq1, zw_id]
      · simp (disch := first | assumption | omega | trivial) only [if_pos, if_neg, if_true, if_false, true_and, and_true, not_true_eq_false, not_false_eq_true, false_and, and_false, Option.bind_some, zq_t, zq_f, zq0, zq1, zw_id]
  · by_cases q1 : q = a + 1
    · subst q1
      by_cases g : (0 ≤ j ∧ j < k) ∧ l < I (a + 1) j <;> simp (disch := first | assumption | omega | trivial) only [if_pos, if_neg, if_true, if_false, true_and, and_true, not_true_eq_false, not_false_eq_true, false_and, and_false, Option.bind_some, zq_t, zq_f, zq0, zq1, zw_id]
    · by_cases q2 : q = a + 2
      · subst q2
        by_cases g : (0 ≤ j ∧ j < k) ∧ l ≤ I (a + 2) j <;> simp (disch := first | assumption | omega | trivial) only [if_pos, if_neg, if_true, if_false, true_and, and_true, not_true_eq_false, not_false_eq_true, false_and, and_false, Option.bind_some, zq_t, zq_f, zq0, zq1, zw_id]
      · simp (disch := first | assumption | omega | trivial) only [if_pos, if_neg, if_true, if_false, true_and, and_true, not_true_eq_false, not_false_eq_true, false_and, and_false, Option.bind_some, zq_t, zq_f, zq0, zq1, zw_id]
theorem zx_followSplit (h : zs_fo S R a) (hc : I a 0 = n) (hn : 0 ≤ n ∧ n ≤ 8) (hb : ∀ j, 0 ≤ j → j < n → (0 ≤ I (a + 1) j ∧ I (a + 1) j ≤ 100) ∧ 0 ≤ I (a + 2) j ∧ I (a + 2) j ≤ 100) : zG (d + 3) 13 [.inr (.inr a), .inl l] (S, I, R, T) = some (0, (S, zp_fsp I a l n, R, T)) := by
  obtain ⟨h0, h1, h2, h3, h4, h5, h6, h7⟩ := id h
  rw [zm_13]
  have key : ∀ (w : Nat) (k : Int), 0 ≤ k → k ≤ n → (n - k).toNat < w → zi_run zt_13 (zG (d + 2)) w 2 [some (.inr (.inr a)), some (.inl l), some (.inl k)] [] (S, zp_fsp I a l k, R, T) = some (0, (S, zp_fsp I a l n, R, T)) := by
    intro w
    induction w with
    | zero => intro j _ _ q; omega
    | succ w ih =>
      intro k k1 k2 k3
      have hz : zp_fsp I a l k a 0 = n := by rw [zp_fsp_at, if_neg (by omega), if_neg (by omega), hc]
      rw [zk_13_2]
      by_cases hk : k < n
      · have hbk := hb k k1 hk
        have e1 : zp_fsp I a l k (a + 1) k = I (a + 1) k := by rw [zp_fsp_at, if_neg (by omega), if_neg (by omega)]
        have e2 : zp_fsp I a l k (a + 2) k = I (a + 2) k := by rw [zp_fsp_at, if_neg (by omega), if_neg (by omega)]
        have step : ∀ M, M = zp_fsp I a l (k + 1) → zi_run zt_13 (zG (d + 2)) w 2 [some (.inr (.inr a)), some (.inl l), some (.inl (k + 1))] [] (S, M, R, T) = some (0, (S, zp_fsp I a l n, R, T)) := fun M hM => zr_mem hM (ih (k + 1) (by omega) (by omega) (by omega))
        by_cases g1 : l < I (a + 1) k <;> by_cases g2 : I (a + 2) k < l <;> simp (disch := first | assumption | omega | trivial) only [if_pos, if_neg, if_true, if_false, true_and, and_true, not_true_eq_false, not_false_eq_true, false_and, and_false, Option.bind_some, zq_t, zq_f, zq0, zq1, zw_id, h1, h2, h3, hz, zx_firstOf h, zx_lastOf h, zk_pk_in, e1, e2, zx_put (show 0 < a + 1 by omega) h5, zx_put (show 0 < a + 2 by omega) h6, zk_pt_in, zu_ne] <;> exact step _ (zp_fsp_step k1 (by simp (disch := first | assumption | omega | trivial) only [if_pos, if_neg, if_true, if_false, true_and, and_true, not_true_eq_false, not_false_eq_true, false_and, and_false, Option.bind_some, zq_t, zq_f, zq0, zq1, zw_id]) (by simp (disch := first | assumption | omega | trivial) only [if_pos, if_neg, if_true, if_false, true_and, and_true, not_true_eq_false, not_false_eq_true, false_and, and_false, Option.bind_some, zq_t, zq_f, zq0, zq1, zw_id]))
      · obtain rfl : k = n := by omega
        simp (disch := first | assumption | omega | trivial) only [if_pos, if_neg, if_true, if_false, true_and, and_true, not_true_eq_false, not_false_eq_true, false_and, and_false, Option.bind_some, zq_t, zq_f, zq0, zq1, zw_id, h1, hz]
  refine zr_mem ?_ (key 1019999 0 (by omega) (by omega) (by omega))
  funext q j
  rw [zp_fsp_at, if_neg (by omega), if_neg (by omega)]
/-- folds that are the same as others -/
def zv_feq (I J : zI) (a b : Int) : Prop := J a 0 = I b 0 ∧ (∀ j, 0 ≤ j → j < 8 → J (a + 1) j = I (b + 1) j) ∧ (∀ j, 0 ≤ j → j < 8 → J (a + 2) j = I (b + 2) j) ∧ ∀ j, 0 ≤ j → j < 8 → J (a + 3) j = I (b + 3) j
theorem zi_cpy_at {q j : Int} : zi_cpy I a b 0 0 n q j = if q = b ∧ 0 ≤ j ∧ j < 0 + n then I a (0 + (j - 0)) else I q j := rfl
theorem zx_FcopyFrom (h : zs_fo S R a) (g : zs_fo S R b) (hab : a + 4 ≤ b ∨ b + 4 ≤ a) : ∃ J, zG (d + 3) 15 [.inr (.inr a), .inr (.inr b)] (S, I, R, T) = some (0, (S, J, R, T)) ∧ zo a (a + 4) I J ∧ zv_feq I J a b := by
  obtain ⟨h0, h1, h2, h3, h4, h5, h6, h7⟩ := id h
  obtain ⟨g0, g1, g2, g3, g4, g5, g6, g7⟩ := id g
  rw [zm_15]
  simp (disch := first | assumption | omega | trivial) only [if_pos, if_neg, if_true, if_false, true_and, and_true, not_true_eq_false, not_false_eq_true, false_and, and_false, Option.bind_some, zq_t, zq_f, zq0, zq1, zw_id, h1, h2, h3, h4, g1, g2, g3, g4, zwr, zx_copy (show 0 < b + 1 by omega) g5 (show 0 < a + 1 by omega) h5, zx_copy (show 0 < b + 2 by omega) g6 (show 0 < a + 2 by omega) h6, zx_copy (show 0 < b + 3 by omega) g7 (show 0 < a + 3 by omega) h7]
  refine ⟨_, rfl, fun x hx => ?_, ?_, fun j j1 j2 => ?_, fun j j1 j2 => ?_, fun j j1 j2 => ?_⟩
  · funext j
    simp (disch := first | assumption | omega | trivial) only [if_pos, if_neg, if_true, if_false, true_and, and_true, not_true_eq_false, not_false_eq_true, false_and, and_false, Option.bind_some, zq_t, zq_f, zq0, zq1, zw_id, zi_cpy_at, zi_up_at]
  · simp (disch := first | assumption | omega | trivial) only [if_pos, if_neg, if_true, if_false, true_and, and_true, not_true_eq_false, not_false_eq_true, false_and, and_false, Option.bind_some, zq_t, zq_f, zq0, zq1, zw_id, zi_cpy_at, zi_up_at]
  · simp (disch := first | assumption | omega | trivial) only [if_pos, if_neg, if_true, if_false, true_and, and_true, not_true_eq_false, not_false_eq_true, false_and, and_false, Option.bind_some, zq_t, zq_f, zq0, zq1, zw_id, zi_cpy_at, zi_up_at]
    exact zc rfl (by omega)
  · simp (disch := first | assumption | omega | trivial) only [if_pos, if_neg, if_true, if_false, true_and, and_true, not_true_eq_false, not_false_eq_true, false_and, and_false, Option.bind_some, zq_t, zq_f, zq0, zq1, zw_id, zi_cpy_at, zi_up_at]
    exact zc rfl (by omega)
  · simp (disch := first | assumption | omega | trivial) only [if_pos, if_neg, if_true, if_false, true_and, and_true, not_true_eq_false, not_false_eq_true, false_and, and_false, Option.bind_some, zq_t, zq_f, zq0, zq1, zw_id, zi_cpy_at, zi_up_at]
    exact zc rfl (by omega)
end ZFp
