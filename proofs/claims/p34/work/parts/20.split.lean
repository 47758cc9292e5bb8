/-! the class: lines divided, joined, copied -/
section ZLm
variable {d : Nat} {S : zS} {I J R : zI} {T : Int × Nat} {a b i n v l f c c' m k : Int}
/-- rows behind k have come from the one ahead -/
def zp_dv (I J : zI) (a k cnt : Int) : Prop := zo a (a + 3) I J ∧ J a 0 = I a 0 ∧ (∀ r, J (a + 1) r = if k < r ∧ r ≤ cnt then I (a + 1) (r - 1) else I (a + 1) r) ∧ ∀ r i, 0 ≤ i → i < 40 → J (a + 2) (r * 40 + i) = if k < r ∧ r ≤ cnt ∧ i < I (a + 1) (r - 1) then I (a + 2) ((r - 1) * 40 + i) else I (a + 2) (r * 40 + i)
theorem zp_dv_step (hJ : zp_dv I J a k m) (hk : 0 < k ∧ k ≤ m) (hn : I (a + 1) (k - 1) = n) (hn2 : 0 ≤ n ∧ n ≤ 40) : zp_dv I (zp_cpl J a (k - 1) k n) a (k - 1) m := by
  obtain ⟨p1, p2, p3, p4⟩ := hJ
  refine ⟨fun x hx => ?_, ?_, fun r => ?_, fun r i hi hi2 => ?_⟩
  · rw [← p1 x hx]
    funext j
    unfold zp_cpl
    rw [if_neg (by omega), if_neg (by omega)]
  · unfold zp_cpl
    rw [if_neg (by omega), if_neg (by omega), p2]
  · unfold zp_cpl
    rw [if_neg (by omega), p3]
    by_cases hr : r = k
    · subst hr
      rw [if_pos ⟨rfl, rfl⟩, if_pos (by omega), hn]
    · rw [if_neg (by omega)]
      by_cases h2 : k < r ∧ r ≤ m
      · rw [if_pos h2, if_pos (by omega)]
      · rw [if_neg h2, if_neg (by omega)]
  · unfold zp_cpl
    by_cases hr : r = k
    · subst hr
      by_cases h2 : i < n
      · rw [if_pos (by omega), show (r - 1) * 40 + (r * 40 + i - r * 40) = (r - 1) * 40 + i by omega, p4 _ i hi hi2, if_neg (by omega), if_pos ⟨by omega, by omega, by omega⟩]
      · rw [if_neg (by omega), if_neg (by omega), p4 _ i hi hi2, if_neg (by omega), if_neg (by omega)]
    · rw [if_neg (by omega), if_neg (by omega), p4 _ i hi hi2]
      by_cases h2 : k < r ∧ r ≤ m ∧ i < I (a + 1) (r - 1)
      · rw [if_pos h2, if_pos (by omega)]
      · rw [if_neg h2, if_neg (by omega)]
def zv_div (I J : zI) (a l i cnt : Int) : Prop := zo a (a + 3) I J ∧ J a 0 = cnt + 1 ∧ (∀ r, 0 ≤ r → r ≤ cnt → J (a + 1) r = if r < l then I (a + 1) r else if r = l then i else if r = l + 1 then I (a + 1) l - i else I (a + 1) (r - 1)) ∧ ∀ r k, 0 ≤ r → r ≤ cnt → 0 ≤ k → k < J (a + 1) r → J (a + 2) (r * 40 + k) = if r ≤ l then I (a + 2) (r * 40 + k) else if r = l + 1 then I (a + 2) (l * 40 + (i + k)) else I (a + 2) ((r - 1) * 40 + k)
theorem zx_divide (h : zs_li S R a) (hc : I a 0 = m) (hm : 0 ≤ l ∧ l < m ∧ m < 12) (hlen : ∀ r, 0 ≤ r → r < m → 0 ≤ I (a + 1) r ∧ I (a + 1) r ≤ 40) (hi : 0 ≤ i ∧ i ≤ I (a + 1) l) : ∃ J, zG (d + 6) 66 [.inr (.inr a), .inl l, .inl i] (S, I, R, T) = some (0, (S, J, R, T)) ∧ zv_div I J a l i m := by
  obtain ⟨h0, h1, h2, h3, h4, h5⟩ := id h
  rw [zm_66]
  simp (disch := first | assumption | omega | trivial) only [if_pos, if_neg, if_true, if_false, true_and, and_true, not_true_eq_false, not_false_eq_true, false_and, and_false, Option.bind_some, zq_t, zq_f, zq0, zq1, zw_id, h1, hc]
  have key : ∀ (w : Nat) (k : Int) (M : zI), l + 1 ≤ k → k ≤ m → zp_dv I M a k m → (k - l).toNat < w → ∃ J, zi_run zt_66 (zG (d + 5)) w 5 [some (.inr (.inr a)), some (.inl l), some (.inl i), some (.inl k)] [] (S, M, R, T) = some (0, (S, J, R, T)) ∧ zv_div I J a l i m := by
    intro w
    induction w with
    | zero => intro k _ _ _ _ q; omega
    | succ w ih =>
      intro k M k1 k2 hM k3
      rw [zk_66_5]
      by_cases hk : l + 1 < k
      · have e : M (a + 1) (k - 1) = I (a + 1) (k - 1) := by rw [hM.2.2.1, if_neg (by omega)]
        have e2 := hlen (k - 1) (by omega) (by omega)
        simp (disch := first | assumption | omega | trivial) only [if_pos, if_neg, if_true, if_false, true_and, and_true, not_true_eq_false, not_false_eq_true, false_and, and_false, Option.bind_some, zq_t, zq_f, zq0, zq1, zw_id, h1, zx_copyLine h (show 0 ≤ k ∧ k < 12 by omega) (show 0 ≤ k - 1 ∧ k - 1 < 12 by omega) (by omega) e e2]
        have hs := zp_dv_step hM (by omega) rfl e2
        exact ih (k - 1) _ (by omega) (by omega) hs (by omega)
      · obtain rfl : k = l + 1 := by omega
        obtain ⟨p1, p2, p3, p4⟩ := hM
        have q1 : M a 0 = m := p2.trans hc
        have e1 : zi_up (zi_up M a 0 (m + 1)) (a + 1) (l + 1) 0 (a + 1) l = I (a + 1) l := by
          rw [zu_ne (by omega), zu_ne (by omega), p3, if_neg (by omega)]
        have e2 : zi_up (zi_up M a 0 (m + 1)) (a + 1) (l + 1) 0 (a + 1) (l + 1) = 0 := zu_eq ⟨rfl, rfl⟩
        have e3 := hlen l (by omega) (by omega)
        simp (disch := first | assumption | omega | trivial) only [if_pos, if_neg, if_true, if_false, true_and, and_true, not_true_eq_false, not_false_eq_true, false_and, and_false, Option.bind_some, zq_t, zq_f, zq0, zq1, zw_id, h1, h2, q1, zwr, zx_put (show 0 < a + 1 by omega) h4, zk_pt_in, zx_appendPart h (show 0 ≤ l + 1 ∧ l + 1 < 12 by omega) (show 0 ≤ l ∧ l < 12 by omega) (by omega) e1 e2]
        have el : ∀ r, zi_up (zp_apd (zi_up (zi_up M a 0 (m + 1)) (a + 1) (l + 1) 0) a l i (l + 1) 0 (I (a + 1) l)) (a + 1) l i (a + 1) r = if r < l then M (a + 1) r else if r = l then i else if r = l + 1 then I (a + 1) l - i else M (a + 1) r := by
          intro r
          by_cases g1 : r = l <;> by_cases g2 : r = l + 1 <;> by_cases g3 : r < l <;> first | (exfalso; omega) | (simp (disch := first | assumption | omega | trivial) only [if_pos, if_neg, if_true, if_false, true_and, and_true, not_true_eq_false, not_false_eq_true, false_and, and_false, Option.bind_some, zq_t, zq_f, zq0, zq1, zw_id, zp_apd_at, zi_up_at] <;> omega)
        have em : ∀ r, 0 ≤ r → r ≤ m → zi_up (zp_apd (zi_up (zi_up M a 0 (m + 1)) (a + 1) (l + 1) 0) a l i (l + 1) 0 (I (a + 1) l)) (a + 1) l i (a + 1) r = if r < l then I (a + 1) r else if r = l then i else if r = l + 1 then I (a + 1) l - i else I (a + 1) (r - 1) := by
          intro r r1 r2
          rw [el]
          by_cases g1 : r = l
          · simp (disch := first | assumption | omega | trivial) only [if_pos, if_neg, if_true, if_false, true_and, and_true, not_true_eq_false, not_false_eq_true, false_and, and_false, Option.bind_some, zq_t, zq_f, zq0, zq1, zw_id]
          · by_cases g2 : r = l + 1
            · simp (disch := first | assumption | omega | trivial) only [if_pos, if_neg, if_true, if_false, true_and, and_true, not_true_eq_false, not_false_eq_true, false_and, and_false, Option.bind_some, zq_t, zq_f, zq0, zq1, zw_id]
            · by_cases g3 : r < l <;> simp (disch := first | assumption | omega | trivial) only [if_pos, if_neg, if_true, if_false, true_and, and_true, not_true_eq_false, not_false_eq_true, false_and, and_false, Option.bind_some, zq_t, zq_f, zq0, zq1, zw_id, p3]
        refine ⟨_, rfl, fun x hx => ?_, ?_, em, fun r k r1 r2 k1 k2 => ?_⟩
        · rw [← p1 x hx]
          funext j
          simp (disch := first | assumption | omega | trivial) only [if_pos, if_neg, if_true, if_false, true_and, and_true, not_true_eq_false, not_false_eq_true, false_and, and_false, Option.bind_some, zq_t, zq_f, zq0, zq1, zw_id, zp_apd_at, zi_up_at]
        · simp (disch := first | assumption | omega | trivial) only [if_pos, if_neg, if_true, if_false, true_and, and_true, not_true_eq_false, not_false_eq_true, false_and, and_false, Option.bind_some, zq_t, zq_f, zq0, zq1, zw_id, zp_apd_at, zi_up_at]
        · rw [em r r1 r2] at k2
          have e4 := hlen r r1
          have e5 := hlen (r - 1)
          by_cases g2 : r = l + 1
          · simp (disch := first | assumption | omega | trivial) only [if_pos, if_neg, if_true, if_false, true_and, and_true, not_true_eq_false, not_false_eq_true, false_and, and_false, Option.bind_some, zq_t, zq_f, zq0, zq1, zw_id] at k2
            simp (disch := first | assumption | omega | trivial) only [if_pos, if_neg, if_true, if_false, true_and, and_true, not_true_eq_false, not_false_eq_true, false_and, and_false, Option.bind_some, zq_t, zq_f, zq0, zq1, zw_id, zp_apd_at, zi_up_at]
            rw [show l * 40 + i + (r * 40 + k - ((l + 1) * 40 + 0)) = l * 40 + (i + k) by omega, p4 l (i + k) (by omega) (by omega), if_neg (by omega)]
          · by_cases g3 : r ≤ l
            · have k40 : k < 40 := by
                by_cases g4 : r = l
                · simp (disch := first | assumption | omega | trivial) only [if_pos, if_neg, if_true, if_false, true_and, and_true, not_true_eq_false, not_false_eq_true, false_and, and_false, Option.bind_some, zq_t, zq_f, zq0, zq1, zw_id] at k2; omega
                · simp (disch := first | assumption | omega | trivial) only [if_pos, if_neg, if_true, if_false, true_and, and_true, not_true_eq_false, not_false_eq_true, false_and, and_false, Option.bind_some, zq_t, zq_f, zq0, zq1, zw_id] at k2; omega
              simp (disch := first | assumption | omega | trivial) only [if_pos, if_neg, if_true, if_false, true_and, and_true, not_true_eq_false, not_false_eq_true, false_and, and_false, Option.bind_some, zq_t, zq_f, zq0, zq1, zw_id, zp_apd_at, zi_up_at]
              rw [p4 r k k1 k40, if_neg (by omega)]
            · simp (disch := first | assumption | omega | trivial) only [if_pos, if_neg, if_true, if_false, true_and, and_true, not_true_eq_false, not_false_eq_true, false_and, and_false, Option.bind_some, zq_t, zq_f, zq0, zq1, zw_id] at k2
              simp (disch := first | assumption | omega | trivial) only [if_pos, if_neg, if_true, if_false, true_and, and_true, not_true_eq_false, not_false_eq_true, false_and, and_false, Option.bind_some, zq_t, zq_f, zq0, zq1, zw_id, zp_apd_at, zi_up_at]
              rw [p4 r k k1 (by omega), if_pos (by omega)]
  refine key 1019999 m I (by omega) (by omega) ⟨zo_refl, rfl, fun r => ?_, fun r i _ _ => ?_⟩ (by omega) <;> rw [if_neg (by omega)]
/-- rows from k on are to come from the one behind -/
def zp_jn (I J : zI) (a k b : Int) : Prop := zo a (a + 3) I J ∧ J a 0 = I a 0 ∧ (∀ r, J (a + 1) r = if b < r ∧ r < k then I (a + 1) (r + 1) else I (a + 1) r) ∧ ∀ r i, 0 ≤ i → i < 40 → J (a + 2) (r * 40 + i) = if b < r ∧ r < k ∧ i < I (a + 1) (r + 1) then I (a + 2) ((r + 1) * 40 + i) else I (a + 2) (r * 40 + i)
theorem zp_jn_step (hJ : zp_jn I J a k b) (hk : b < k) (hn : I (a + 1) (k + 1) = n) (hn2 : 0 ≤ n ∧ n ≤ 40) : zp_jn I (zp_cpl J a (k + 1) k n) a (k + 1) b := by
  obtain ⟨p1, p2, p3, p4⟩ := hJ
  refine ⟨fun x hx => ?_, ?_, fun r => ?_, fun r i hi hi2 => ?_⟩
  · rw [← p1 x hx]
    funext j
    unfold zp_cpl
    rw [if_neg (by omega), if_neg (by omega)]
  · unfold zp_cpl
    rw [if_neg (by omega), if_neg (by omega), p2]
  · unfold zp_cpl
    rw [if_neg (by omega), p3]
    by_cases hr : r = k
    · subst hr
      rw [if_pos ⟨rfl, rfl⟩, if_pos (by omega), hn]
    · rw [if_neg (by omega)]
      by_cases h2 : b < r ∧ r < k
      · rw [if_pos h2, if_pos (by omega)]
      · rw [if_neg h2, if_neg (by omega)]
  · unfold zp_cpl
    by_cases hr : r = k
    · subst hr
      by_cases h2 : i < n
      · rw [if_pos (by omega), show (r + 1) * 40 + (r * 40 + i - r * 40) = (r + 1) * 40 + i by omega, p4 _ i hi hi2, if_neg (by omega), if_pos ⟨by omega, by omega, by omega⟩]
      · rw [if_neg (by omega), if_neg (by omega), p4 _ i hi hi2, if_neg (by omega), if_neg (by omega)]
    · rw [if_neg (by omega), if_neg (by omega), p4 _ i hi hi2]
      by_cases h2 : b < r ∧ r < k ∧ i < I (a + 1) (r + 1)
      · rw [if_pos h2, if_pos (by omega)]
      · rw [if_neg h2, if_neg (by omega)]
def zv_join (I J : zI) (a l cnt : Int) : Prop := zo a (a + 3) I J ∧ J a 0 = cnt - 1 ∧ (∀ r, 0 ≤ r → r < cnt - 1 → J (a + 1) r = if r < l then I (a + 1) r else if r = l then I (a + 1) l + I (a + 1) (l + 1) else I (a + 1) (r + 1)) ∧ ∀ r k, 0 ≤ r → r < cnt - 1 → 0 ≤ k → k < J (a + 1) r → J (a + 2) (r * 40 + k) = if r < l ∨ (r = l ∧ k < I (a + 1) l) then I (a + 2) (r * 40 + k) else if r = l then I (a + 2) ((l + 1) * 40 + (k - I (a + 1) l)) else I (a + 2) ((r + 1) * 40 + k)
theorem zx_joinWithNext (h : zs_li S R a) (hc : I a 0 = m) (hm : 0 ≤ l ∧ l + 1 < m ∧ m ≤ 12) (hlen : ∀ r, 0 ≤ r → r < m → 0 ≤ I (a + 1) r ∧ I (a + 1) r ≤ 40) (hi : I (a + 1) l + I (a + 1) (l + 1) ≤ 40) : ∃ J, zG (d + 6) 67 [.inr (.inr a), .inl l] (S, I, R, T) = some (0, (S, J, R, T)) ∧ zv_join I J a l m := by
  obtain ⟨h0, h1, h2, h3, h4, h5⟩ := id h
  rw [zm_67]
  have e1 := hlen l (by omega) (by omega)
  have e2 := hlen (l + 1) (by omega) (by omega)
  have q1 : zp_apd I a (l + 1) 0 l (I (a + 1) l) (I (a + 1) (l + 1)) a 0 = m := by
    unfold zp_apd
    rw [if_neg (by omega), if_neg (by omega), hc]
  simp (disch := first | assumption | omega | trivial) only [if_pos, if_neg, if_true, if_false, true_and, and_true, not_true_eq_false, not_false_eq_true, false_and, and_false, Option.bind_some, zq_t, zq_f, zq0, zq1, zw_id, h1, q1, zwr, zx_appendPart h (show 0 ≤ l ∧ l < 12 by omega) (show 0 ≤ l + 1 ∧ l + 1 < 12 by omega) (show l + 1 ≠ l by omega) rfl rfl]
  obtain ⟨M0, hM0⟩ : ∃ M0, M0 = zi_up (zp_apd I a (l + 1) 0 l (I (a + 1) l) (I (a + 1) (l + 1))) a 0 (m - 1) := ⟨_, rfl⟩
  rw [← hM0]
  have mc : M0 a 0 = m - 1 := by rw [hM0]; exact zu_eq ⟨rfl, rfl⟩
  have ml : ∀ r, M0 (a + 1) r = if r = l then I (a + 1) l + I (a + 1) (l + 1) else I (a + 1) r := by
    intro r
    rw [hM0, zu_ne (by omega)]
    unfold zp_apd
    rw [if_neg (by omega)]
    by_cases hr : r = l
    · rw [if_pos (by omega), if_pos hr]; omega
    · rw [if_neg (by omega), if_neg hr]
  have ms : ∀ r i, 0 ≤ i → i < 40 → M0 (a + 2) (r * 40 + i) = if r = l ∧ I (a + 1) l ≤ i ∧ i < I (a + 1) l + I (a + 1) (l + 1) then I (a + 2) ((l + 1) * 40 + (i - I (a + 1) l)) else I (a + 2) (r * 40 + i) := by
    intro r i i1 i2
    rw [hM0, zu_ne (by omega)]
    unfold zp_apd
    by_cases hr : r = l ∧ I (a + 1) l ≤ i ∧ i < I (a + 1) l + I (a + 1) (l + 1)
    · rw [if_pos (by omega), if_pos hr]; exact zc rfl (by omega)
    · rw [if_neg (by omega), if_neg (by omega), if_neg hr]
  have mo : zo a (a + 3) I M0 := by
    intro x hx
    rw [hM0]
    funext j
    simp (disch := first | assumption | omega | trivial) only [if_pos, if_neg, if_true, if_false, true_and, and_true, not_true_eq_false, not_false_eq_true, false_and, and_false, Option.bind_some, zq_t, zq_f, zq0, zq1, zw_id, zp_apd_at, zi_up_at]
  have key : ∀ (w : Nat) (k : Int) (M : zI), l + 1 ≤ k → k ≤ m - 1 → zp_jn M0 M a k l → (m - k).toNat < w → ∃ J, zi_run zt_67 (zG (d + 5)) w 23 [some (.inr (.inr a)), none, some (.inl k)] [] (S, M, R, T) = some (0, (S, J, R, T)) ∧ zv_join I J a l m := by
    intro w
    induction w with
    | zero => intro k _ _ _ _ q; omega
    | succ w ih =>
      intro k M k1 k2 hM k3
      have hmc : M a 0 = m - 1 := hM.2.1.trans mc
      rw [zk_67_23]
      by_cases hk : k < m - 1
      · have e : M (a + 1) (k + 1) = I (a + 1) (k + 1) := by rw [hM.2.2.1, if_neg (by omega), ml, if_neg (by omega)]
        have e2 := hlen (k + 1) (by omega) (by omega)
        simp (disch := first | assumption | omega | trivial) only [if_pos, if_neg, if_true, if_false, true_and, and_true, not_true_eq_false, not_false_eq_true, false_and, and_false, Option.bind_some, zq_t, zq_f, zq0, zq1, zw_id, h1, hmc, zx_copyLine h (show 0 ≤ k ∧ k < 12 by omega) (show 0 ≤ k + 1 ∧ k + 1 < 12 by omega) (by omega) e e2]
        have hs := zp_jn_step (n := I (a + 1) (k + 1)) hM (by omega) (by rw [ml, if_neg (by omega)]) e2
        exact ih (k + 1) _ (by omega) (by omega) hs (by omega)
      · obtain rfl : k = m - 1 := by omega
        obtain ⟨p1, p2, p3, p4⟩ := hM
        simp (disch := first | assumption | omega | trivial) only [if_pos, if_neg, if_true, if_false, true_and, and_true, not_true_eq_false, not_false_eq_true, false_and, and_false, Option.bind_some, zq_t, zq_f, zq0, zq1, zw_id, h1, hmc]
        have el : ∀ r, 0 ≤ r → r < m - 1 → M (a + 1) r = if r < l then I (a + 1) r else if r = l then I (a + 1) l + I (a + 1) (l + 1) else I (a + 1) (r + 1) := by
          intro r r1 r2
          rw [p3]
          by_cases g1 : r = l
          · rw [if_neg (by omega), ml, if_pos g1, if_neg (by omega), if_pos g1]
          · by_cases g2 : r < l
            · rw [if_neg (by omega), ml, if_neg g1, if_pos g2]
            · rw [if_pos (by omega), ml, if_neg (by omega), if_neg g2, if_neg g1]
        refine ⟨_, rfl, zo_trans mo p1, hmc, el, fun r k r1 r2 i1 i2 => ?_⟩
        rw [el r r1 r2] at i2
        have e4 := hlen r r1 (by omega)
        have e5 := hlen (r + 1) (by omega) (by omega)
        by_cases g1 : r = l
        · subst g1
          rw [if_neg (by omega), if_pos rfl] at i2
          rw [p4 r k i1 (by omega), if_neg (by omega), ms r k i1 (by omega)]
          by_cases g2 : k < I (a + 1) r
          · rw [if_neg (by omega), if_pos (by omega)]
          · rw [if_pos (by omega), if_neg (by omega), if_pos rfl]
        · by_cases g2 : r < l
          · rw [if_pos g2] at i2
            rw [p4 r k i1 (by omega), if_neg (by omega), ms r k i1 (by omega), if_neg (by omega), if_pos (by omega)]
          · rw [if_neg g2, if_neg g1] at i2
            rw [p4 r k i1 (by omega), if_pos ⟨by omega, by omega, by rw [ml, if_neg (by omega)]; exact i2⟩, ms (r + 1) k i1 (by omega), if_neg (by omega), if_neg (by omega), if_neg g1]
  refine key 1019999 (l + 1) M0 (by omega) (by omega) ⟨zo_refl, rfl, fun r => ?_, fun r i _ _ => ?_⟩ (by omega) <;> rw [if_neg (by omega)]
/-- lines that are the same as others -/
def zv_leq (I J : zI) (a b : Int) : Prop := J a 0 = I b 0 ∧ (∀ j, 0 ≤ j → j < 12 → J (a + 1) j = I (b + 1) j) ∧ ∀ j, 0 ≤ j → j < 480 → J (a + 2) j = I (b + 2) j
theorem zx_LcopyFrom (h : zs_li S R a) (g : zs_li S R b) (hab : a + 3 ≤ b ∨ b + 3 ≤ a) : ∃ J, zG (d + 3) 68 [.inr (.inr a), .inr (.inr b)] (S, I, R, T) = some (0, (S, J, R, T)) ∧ zo a (a + 3) I J ∧ zv_leq I J a b := by
  obtain ⟨h0, h1, h2, h3, h4, h5⟩ := id h
  obtain ⟨g0, g1, g2, g3, g4, g5⟩ := id g
  rw [zm_68]
  simp (disch := first | assumption | omega | trivial) only [if_pos, if_neg, if_true, if_false, true_and, and_true, not_true_eq_false, not_false_eq_true, false_and, and_false, Option.bind_some, zq_t, zq_f, zq0, zq1, zw_id, h1, h2, h3, g1, g2, g3, zwr, zx_copy (show 0 < b + 1 by omega) g4 (show 0 < a + 1 by omega) h4, zx_copy (show 0 < b + 2 by omega) g5 (show 0 < a + 2 by omega) h5]
  refine ⟨_, rfl, fun x hx => ?_, ?_, fun j j1 j2 => ?_, fun j j1 j2 => ?_⟩
  · funext j
    unfold zi_cpy zi_up
    rw [if_neg (by omega), if_neg (by omega), if_neg (by omega)]
  · unfold zi_cpy zi_up
    rw [if_neg (by omega), if_neg (by omega), if_pos ⟨rfl, rfl⟩]
  · unfold zi_cpy zi_up
    rw [if_neg (by omega), if_pos (by omega), if_neg (by omega)]
    exact zc rfl (by omega)
  · unfold zi_cpy zi_up
    rw [if_pos (by omega), if_neg (by omega), if_neg (by omega)]
    exact zc rfl (by omega)
end ZLm
