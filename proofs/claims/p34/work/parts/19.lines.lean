/-! the class: lines are edited -/
theorem zr_mem {t : zT} {G : Nat → List zV → zM → zR} {w pc : Nat} {L : zL} {S : zS} {I J R : zI} {T : Int × Nat} {r : zR} (h : I = J) (h2 : zi_run t G w pc L [] (S, J, R, T) = r) : zi_run t G w pc L [] (S, I, R, T) = r := by
  rw [h]; exact h2
theorem zr_some {S : zS} {I J R : zI} {T : Int × Nat} {v : Int} (h : I = J) : (some (v, (S, I, R, T)) : zR) = some (v, (S, J, R, T)) := by rw [h]
theorem zi_up_at {I : zI} {a k v x j : Int} : zi_up I a k v x j = if x = a ∧ j = k then v else I x j := rfl
section ZLn
variable {d : Nat} {S : zS} {I R : zI} {T : Int × Nat} {a b i n v l f c c' m : Int}
def zp_sh (I : zI) (a l k n : Int) : zI := fun q j => if q = a + 2 ∧ l * 40 + k < j ∧ j ≤ l * 40 + n then I q (j - 1) else I q j
def zp_ins (I : zI) (a l i n c : Int) : zI := fun q j => if q = a + 2 ∧ j = l * 40 + i then c else if q = a + 2 ∧ l * 40 + i < j ∧ j ≤ l * 40 + n then I q (j - 1) else if q = a + 1 ∧ j = l then n + 1 else I q j
theorem zx_insert (h : zs_li S R a) (hl : 0 ≤ l ∧ l < 12) (hn : I (a + 1) l = n) (hn2 : 0 ≤ n ∧ n < 40) (hi : 0 ≤ i ∧ i ≤ n) : zG (d + 3) 64 [.inr (.inr a), .inl l, .inl i, .inl c] (S, I, R, T) = some (0, (S, zp_ins I a l i n c, R, T)) := by
  obtain ⟨h0, h1, h2, h3, h4, h5⟩ := id h
  rw [zm_64]
  simp (disch := first | assumption | omega | trivial) only [if_pos, if_neg, if_true, if_false, true_and, and_true, not_true_eq_false, not_false_eq_true, false_and, and_false, Option.bind_some, zq_t, zq_f, zq0, zq1, zw_id, h1, zx_length h, zk_pk_in, hn]
  have key : ∀ (w : Nat) (k : Int), i ≤ k → k ≤ n → (k - i).toNat < w → zi_run zt_64 (zG (d + 2)) w 11 [some (.inr (.inr a)), some (.inl l), some (.inl i), some (.inl c), some (.inl n), some (.inl k)] [] (S, zp_sh I a l k n, R, T) = some (0, (S, zp_ins I a l i n c, R, T)) := by
    intro w
    induction w with
    | zero => intro k _ _ q; omega
    | succ w ih =>
      intro k k1 k2 k3
      rw [zk_64_11]
      by_cases hk : i < k
      · simp (disch := first | assumption | omega | trivial) only [if_pos, if_neg, if_true, if_false, true_and, and_true, not_true_eq_false, not_false_eq_true, false_and, and_false, Option.bind_some, zq_t, zq_f, zq0, zq1, zw_id, h1, zx_signOf h, zx_writeSign h, zk_pk_in, zk_pt_in]
        exact zr_mem (by (funext q j; simp only [zp_sh, zi_up]; (repeat' split) <;> first | rfl | (exfalso; omega) | exact zc (by omega) (by omega) | omega)) (ih (k + -1) (by omega) (by omega) (by omega))
      · simp (disch := first | assumption | omega | trivial) only [if_pos, if_neg, if_true, if_false, true_and, and_true, not_true_eq_false, not_false_eq_true, false_and, and_false, Option.bind_some, zq_t, zq_f, zq0, zq1, zw_id, h1, h2, zx_writeSign h, zk_pk_in, zk_pt_in, zx_put (show 0 < a + 1 by omega) h4]
        exact zr_some (by (funext q j; simp only [zp_sh, zp_ins, zi_up]; (repeat' split) <;> first | rfl | (exfalso; omega) | exact zc (by omega) (by omega) | omega))
  exact zr_mem (by (funext q j; simp only [zp_sh, zi_up]; (repeat' split) <;> first | rfl | (exfalso; omega) | exact zc (by omega) (by omega) | omega)) (key 1019999 n (by omega) (by omega) (by omega))
def zp_rem (I : zI) (a l i u n : Int) : zI := fun q j => if q = a + 2 ∧ l * 40 + i ≤ j ∧ j < l * 40 + i + (n - u) then I q (j + (u - i)) else if q = a + 1 ∧ j = l then n - (u - i) else I q j
def zp_re (I : zI) (a l i u k : Int) : zI := fun q j => if q = a + 2 ∧ l * 40 + i ≤ j ∧ j < l * 40 + i + (k - u) then I q (j + (u - i)) else I q j
theorem zx_remove (h : zs_li S R a) (hl : 0 ≤ l ∧ l < 12) (hn : I (a + 1) l = n) (hn2 : 0 ≤ n ∧ n ≤ 40) (hi : 0 ≤ i ∧ i ≤ b) (hb : b ≤ n) : zG (d + 3) 65 [.inr (.inr a), .inl l, .inl i, .inl b] (S, I, R, T) = some (0, (S, zp_rem I a l i b n, R, T)) := by
  obtain ⟨h0, h1, h2, h3, h4, h5⟩ := id h
  rw [zm_65]
  simp (disch := first | assumption | omega | trivial) only [if_pos, if_neg, if_true, if_false, true_and, and_true, not_true_eq_false, not_false_eq_true, false_and, and_false, Option.bind_some, zq_t, zq_f, zq0, zq1, zw_id, h1, zx_length h, zk_pk_in, hn]
  have key : ∀ (w : Nat) (k : Int), b ≤ k → k ≤ n → (n - k).toNat < w → zi_run zt_65 (zG (d + 2)) w 15 [some (.inr (.inr a)), some (.inl l), none, none, some (.inl n), some (.inl (b - i)), some (.inl k)] [] (S, zp_re I a l i b k, R, T) = some (0, (S, zp_rem I a l i b n, R, T)) := by
    intro w
    induction w with
    | zero => intro k _ _ q; omega
    | succ w ih =>
      intro k k1 k2 k3
      rw [zk_65_15]
      by_cases hk : k < n
      · simp (disch := first | assumption | omega | trivial) only [if_pos, if_neg, if_true, if_false, true_and, and_true, not_true_eq_false, not_false_eq_true, false_and, and_false, Option.bind_some, zq_t, zq_f, zq0, zq1, zw_id, h1, zx_signOf h, zx_writeSign h, zk_pk_in, zk_pt_in]
        exact zr_mem (by (funext q j; simp only [zp_re, zi_up]; (repeat' split) <;> first | rfl | (exfalso; omega) | exact zc (by omega) (by omega) | omega)) (ih (k + 1) (by omega) (by omega) (by omega))
      · simp (disch := first | assumption | omega | trivial) only [if_pos, if_neg, if_true, if_false, true_and, and_true, not_true_eq_false, not_false_eq_true, false_and, and_false, Option.bind_some, zq_t, zq_f, zq0, zq1, zw_id, h1, h2, zk_pt_in, zx_put (show 0 < a + 1 by omega) h4]
        exact zr_some (by (funext q j; simp only [zp_re, zp_rem, zi_up]; (repeat' split) <;> first | rfl | (exfalso; omega) | exact zc (by omega) (by omega) | omega))
  exact zr_mem (by (funext q j; simp only [zp_re, zi_up]; (repeat' split) <;> first | rfl | (exfalso; omega) | exact zc (by omega) (by omega) | omega)) (key 1019999 b (by omega) (by omega) (by omega))
theorem zx_append (h : zs_li S R a) (hl : 0 ≤ l ∧ l < 12) (hn : I (a + 1) l = n) (hn2 : 0 ≤ n ∧ n < 40) : zG (d + 3) 63 [.inr (.inr a), .inl l, .inl c] (S, I, R, T) = some (0, (S, zi_up (zi_up I (a + 2) (l * 40 + n) c) (a + 1) l (n + 1), R, T)) := by
  obtain ⟨h0, h1, h2, h3, h4, h5⟩ := id h
  rw [zm_63]
  simp (disch := first | assumption | omega | trivial) only [if_pos, if_neg, if_true, if_false, true_and, and_true, not_true_eq_false, not_false_eq_true, false_and, and_false, Option.bind_some, zq_t, zq_f, zq0, zq1, zw_id, h1, h2, h3, zx_length h, zk_pk_in, hn, zx_put (show 0 < a + 2 by omega) h5, zx_put (show 0 < a + 1 by omega) h4, zk_pt_in]
def zp_apd (I : zI) (a s i l m k : Int) : zI := fun q j => if q = a + 2 ∧ l * 40 + m ≤ j ∧ j < l * 40 + m + (k - i) then I q (s * 40 + i + (j - (l * 40 + m))) else if q = a + 1 ∧ j = l then m + (k - i) else I q j
theorem zp_apd_at {x j s k : Int} : zp_apd I a s i l m k x j = if x = a + 2 ∧ l * 40 + m ≤ j ∧ j < l * 40 + m + (k - i) then I (a + 2) (s * 40 + i + (j - (l * 40 + m))) else if x = a + 1 ∧ j = l then m + (k - i) else I x j := by
  show (if x = a + 2 ∧ l * 40 + m ≤ j ∧ j < l * 40 + m + (k - i) then I x (s * 40 + i + (j - (l * 40 + m))) else if x = a + 1 ∧ j = l then m + (k - i) else I x j) = _
  by_cases h : x = a + 2 ∧ l * 40 + m ≤ j ∧ j < l * 40 + m + (k - i)
  · rw [if_pos h, if_pos h, h.1]
  · rw [if_neg h, if_neg h]
theorem zx_appendPart (h : zs_li S R a) (hl : 0 ≤ l ∧ l < 12) (hs : 0 ≤ b ∧ b < 12) (hsl : b ≠ l) (hn : I (a + 1) b = n) (hm : I (a + 1) l = m) (hn2 : 0 ≤ i ∧ i ≤ n ∧ n ≤ 40) (hm2 : 0 ≤ m ∧ m + (n - i) ≤ 40) : zG (d + 4) 70 [.inr (.inr a), .inl b, .inl i, .inl l] (S, I, R, T) = some (0, (S, zp_apd I a b i l m n, R, T)) := by
  obtain ⟨h0, h1, h2, h3, h4, h5⟩ := id h
  rw [zm_70]
  simp (disch := first | assumption | omega | trivial) only [if_pos, if_neg, if_true, if_false, true_and, and_true, not_true_eq_false, not_false_eq_true, false_and, and_false, Option.bind_some, zq_t, zq_f, zq0, zq1, zw_id, h1, zx_length h, zk_pk_in, hn]
  have key : ∀ (w : Nat) (k : Int), i ≤ k → k ≤ n → (n - k).toNat < w → zi_run zt_70 (zG (d + 3)) w 10 [some (.inr (.inr a)), some (.inl b), none, some (.inl l), some (.inl n), some (.inl k)] [] (S, zp_apd I a b i l m k, R, T) = some (0, (S, zp_apd I a b i l m n, R, T)) := by
    intro w
    induction w with
    | zero => intro k _ _ q; omega
    | succ w ih =>
      intro k k1 k2 k3
      rw [zk_70_10]
      by_cases hk : k < n
      · have e : zp_apd I a b i l m k (a + 1) l = m + (k - i) := by
          unfold zp_apd
          rw [if_neg (by omega), if_pos ⟨rfl, rfl⟩]
        simp (disch := first | assumption | omega | trivial) only [if_pos, if_neg, if_true, if_false, true_and, and_true, not_true_eq_false, not_false_eq_true, false_and, and_false, Option.bind_some, zq_t, zq_f, zq0, zq1, zw_id, h1, zx_signOf h, zx_append h hl e, zk_pk_in]
        exact zr_mem (by (funext q j; simp only [zp_apd, zi_up]; (repeat' split) <;> first | rfl | (exfalso; omega) | exact zc (by omega) (by omega) | omega)) (ih (k + 1) (by omega) (by omega) (by omega))
      · obtain rfl : k = n := by omega
        simp (disch := first | assumption | omega | trivial) only [if_pos, if_neg, if_true, if_false, true_and, and_true, not_true_eq_false, not_false_eq_true, false_and, and_false, Option.bind_some, zq_t, zq_f, zq0, zq1, zw_id]
  refine zr_mem ?_ (key 1019999 i (by omega) (by omega) (by omega))
  funext q j
  unfold zp_apd
  rw [if_neg (by omega)]
  split
  · rename_i g
    rw [g.1, g.2, hm]
    omega
  · rfl
def zp_cpl (I : zI) (a s l n : Int) : zI := fun q j => if q = a + 2 ∧ l * 40 ≤ j ∧ j < l * 40 + n then I q (s * 40 + (j - l * 40)) else if q = a + 1 ∧ j = l then n else I q j
theorem zx_copyLine (h : zs_li S R a) (hl : 0 ≤ l ∧ l < 12) (hs : 0 ≤ b ∧ b < 12) (hsl : b ≠ l) (hn : I (a + 1) b = n) (hn2 : 0 ≤ n ∧ n ≤ 40) : zG (d + 5) 69 [.inr (.inr a), .inl b, .inl l] (S, I, R, T) = some (0, (S, zp_cpl I a b l n, R, T)) := by
  obtain ⟨h0, h1, h2, h3, h4, h5⟩ := id h
  rw [zm_69]
  have e1 : zi_up I (a + 1) l 0 (a + 1) b = n := by rw [zu_ne (by omega), hn]
  have e2 : zi_up I (a + 1) l 0 (a + 1) l = 0 := zu_eq ⟨rfl, rfl⟩
  simp (disch := first | assumption | omega | trivial) only [if_pos, if_neg, if_true, if_false, true_and, and_true, not_true_eq_false, not_false_eq_true, false_and, and_false, Option.bind_some, zq_t, zq_f, zq0, zq1, zw_id, h1, h2, zx_put (show 0 < a + 1 by omega) h4, zk_pt_in, zx_appendPart h hl hs hsl e1 e2]
  exact zr_some (by (funext q j; simp only [zp_apd, zp_cpl, zi_up]; (repeat' split) <;> first | rfl | (exfalso; omega) | exact zc (by omega) (by omega) | omega))
theorem zx_Lclear (h : zs_li S R a) : zG (d + 2) 61 [.inr (.inr a)] (S, I, R, T) = some (0, (S, zi_up (zi_up I a 0 1) (a + 1) 0 0, R, T)) := by
  obtain ⟨h0, h1, h2, h3, h4, h5⟩ := id h
  rw [zm_61]
  simp (disch := first | assumption | omega | trivial) only [if_pos, if_neg, if_true, if_false, true_and, and_true, not_true_eq_false, not_false_eq_true, false_and, and_false, Option.bind_some, zq_t, zq_f, zq0, zq1, zw_id, h1, h2, zwr, zx_put (show 0 < a + 1 by omega) h4, zk_pt_in]
theorem zx_addLine (h : zs_li S R a) (hc : I a 0 = n) (hn : 0 ≤ n ∧ n < 12) : zG (d + 2) 62 [.inr (.inr a)] (S, I, R, T) = some (0, (S, zi_up (zi_up I (a + 1) n 0) a 0 (n + 1), R, T)) := by
  obtain ⟨h0, h1, h2, h3, h4, h5⟩ := id h
  rw [zm_62]
  simp (disch := first | assumption | omega | trivial) only [if_pos, if_neg, if_true, if_false, true_and, and_true, not_true_eq_false, not_false_eq_true, false_and, and_false, Option.bind_some, zq_t, zq_f, zq0, zq1, zw_id, h1, h2, hc, zwr, zx_put (show 0 < a + 1 by omega) h4, zk_pt_in, zu_ne]
end ZLn
