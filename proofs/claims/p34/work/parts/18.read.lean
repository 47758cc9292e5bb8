/-! the class: what is read of lines, folds, signs -/
def zf_odds (a b c d : Int) : Prop := (a = c ∧ b = d) ∨ (¬ (b < c ∨ d < a) ∧ ¬ ((a ≤ c ∧ d ≤ b) ∨ (c ≤ a ∧ b ≤ d)))
def zf_ahead (a b c d : Int) : Prop := a < c ∨ (a = c ∧ d < b)
def zf_sign (c : Int) : Prop := (97 ≤ c ∧ c ≤ 122) ∨ (65 ≤ c ∧ c ≤ 90) ∨ c = 32 ∨ c = 9 ∨ c = 45 ∨ c = 126
def zf_wide (c : Int) : Prop := 65 ≤ c ∧ c ≤ 90
def zf_gap (c : Int) : Prop := c = 32 ∨ c = 9
def zf_lets (c : Int) : Prop := c = 32 ∨ c = 9 ∨ (65 ≤ c ∧ c ≤ 90) ∨ c = 45
section ZRd
variable {d : Nat} {S : zS} {I R : zI} {T : Int × Nat} {a b i n v l f c c' : Int}
theorem zx_isWide : zG (d + 1) 134 [.inl c] (S, I, R, T) = some (zq (zf_wide c), (S, I, R, T)) := by
  rw [zm_134]
  unfold zf_wide
  by_cases h1 : c < 65 <;> by_cases h2 : 90 < c <;> first | (exfalso; omega) | simp (disch := first | assumption | omega | trivial) only [if_pos, if_neg, if_true, if_false, true_and, and_true, not_true_eq_false, not_false_eq_true, false_and, and_false, Option.bind_some, zq_t, zq_f, zq0, zq1, zw_id]
theorem zx_isGap : zG (d + 1) 135 [.inl c] (S, I, R, T) = some (zq (zf_gap c), (S, I, R, T)) := by
  rw [zm_135]
  unfold zf_gap
  by_cases h1 : c = 32 <;> by_cases h2 : c = 9 <;> simp (disch := first | assumption | omega | trivial) only [if_pos, if_neg, if_true, if_false, true_and, and_true, not_true_eq_false, not_false_eq_true, false_and, and_false, Option.bind_some, zq_t, zq_f, zq0, zq1, zw_id]
theorem zx_isSign : zG (d + 2) 136 [.inl c] (S, I, R, T) = some (zq (zf_sign c), (S, I, R, T)) := by
  rw [zm_136]
  unfold zf_sign
  by_cases h1 : c < 97 <;> by_cases h2 : 122 < c <;> by_cases h3 : 65 ≤ c ∧ c ≤ 90 <;> by_cases h4 : c = 32 ∨ c = 9 <;> by_cases h5 : c = 45 <;> by_cases h6 : c = 126 <;> simp (disch := first | assumption | omega | trivial) only [if_pos, if_neg, if_true, if_false, true_and, and_true, not_true_eq_false, not_false_eq_true, false_and, and_false, Option.bind_some, zq_t, zq_f, zq0, zq1, zw_id, zk_136_12, zx_isWide, zx_isGap, zf_wide, zf_gap]
theorem zx_lets : zG (d + 2) 137 [.inl c] (S, I, R, T) = some (zq (zf_lets c), (S, I, R, T)) := by
  rw [zm_137]
  unfold zf_lets
  by_cases h1 : 65 ≤ c ∧ c ≤ 90 <;> by_cases h2 : c = 32 ∨ c = 9 <;> by_cases h3 : c = 45 <;> simp (disch := first | assumption | omega | trivial) only [if_pos, if_neg, if_true, if_false, true_and, and_true, not_true_eq_false, not_false_eq_true, false_and, and_false, Option.bind_some, zq_t, zq_f, zq0, zq1, zw_id, zx_isWide, zx_isGap, zf_wide, zf_gap]
/-! lines -/
theorem zx_Lhas (h : zs_li S R a) : zG (d + 1) 56 [.inr (.inr a), .inl l] (S, I, R, T) = some (zq (0 ≤ l ∧ l < I a 0), (S, I, R, T)) := by
  obtain ⟨h0, h1, h2, h3, h4, h5⟩ := h
  rw [zm_56]
  by_cases g1 : l < 0 <;> by_cases g2 : l < I a 0 <;> simp (disch := first | assumption | omega | trivial) only [if_pos, if_neg, if_true, if_false, true_and, and_true, not_true_eq_false, not_false_eq_true, false_and, and_false, Option.bind_some, zq_t, zq_f, zq0, zq1, zw_id, h1]
theorem zx_length (h : zs_li S R a) : zG (d + 2) 58 [.inr (.inr a), .inl l] (S, I, R, T) = some (zk_pk I (a + 1) 12 l, (S, I, R, T)) := by
  obtain ⟨h0, h1, h2, h3, h4, h5⟩ := h
  rw [zm_58]
  simp (disch := first | assumption | omega | trivial) only [if_pos, if_neg, if_true, if_false, true_and, and_true, not_true_eq_false, not_false_eq_true, false_and, and_false, Option.bind_some, zq_t, zq_f, zq0, zq1, zw_id, h1, h2, zx_pick (show 0 < a + 1 by omega) h4]
theorem zx_hasPlace (h : zs_li S R a) : zG (d + 3) 57 [.inr (.inr a), .inl l, .inl i] (S, I, R, T) = some (zq ((0 ≤ l ∧ l < I a 0) ∧ 0 ≤ i ∧ i ≤ zk_pk I (a + 1) 12 l), (S, I, R, T)) := by
  rw [zm_57]
  obtain ⟨h0, h1, h2, h3, h4, h5⟩ := id h
  by_cases g0 : 0 ≤ l ∧ l < I a 0 <;> by_cases g1 : i < 0 <;> by_cases g2 : zk_pk I (a + 1) 12 l < i <;> simp (disch := first | assumption | omega | trivial) only [if_pos, if_neg, if_true, if_false, true_and, and_true, not_true_eq_false, not_false_eq_true, false_and, and_false, Option.bind_some, zq_t, zq_f, zq0, zq1, zw_id, h1, zx_Lhas h, zx_length h]
theorem zx_signOf (h : zs_li S R a) (hl : -1 ≤ l ∧ l ≤ 1000) (hi : -1 ≤ i ∧ i ≤ 1000) : zG (d + 2) 60 [.inr (.inr a), .inl l, .inl i] (S, I, R, T) = some (zk_pk I (a + 2) 480 (l * 40 + i), (S, I, R, T)) := by
  obtain ⟨h0, h1, h2, h3, h4, h5⟩ := h
  rw [zm_60]
  simp (disch := first | assumption | omega | trivial) only [if_pos, if_neg, if_true, if_false, true_and, and_true, not_true_eq_false, not_false_eq_true, false_and, and_false, Option.bind_some, zq_t, zq_f, zq0, zq1, zw_id, h1, h3, zx_pick (show 0 < a + 2 by omega) h5]
theorem zx_writeSign (h : zs_li S R a) (hl : -1 ≤ l ∧ l ≤ 1000) (hi : -1 ≤ i ∧ i ≤ 1000) : zG (d + 2) 71 [.inr (.inr a), .inl l, .inl i, .inl v] (S, I, R, T) = some (0, (S, zk_pt I (a + 2) 480 (l * 40 + i) v, R, T)) := by
  obtain ⟨h0, h1, h2, h3, h4, h5⟩ := h
  rw [zm_71]
  simp (disch := first | assumption | omega | trivial) only [if_pos, if_neg, if_true, if_false, true_and, and_true, not_true_eq_false, not_false_eq_true, false_and, and_false, Option.bind_some, zq_t, zq_f, zq0, zq1, zw_id, h1, h3, zx_put (show 0 < a + 2 by omega) h5]
theorem zx_total (h : zs_li S R a) (hc : 0 ≤ I a 0 ∧ I a 0 ≤ 12) (hg : ∀ j, 0 ≤ j → j < I a 0 → 0 ≤ I (a + 1) j ∧ I (a + 1) j ≤ 40) : zG (d + 3) 59 [.inr (.inr a)] (S, I, R, T) = some (zk_sm (I (a + 1)) (I a 0), (S, I, R, T)) := by
  obtain ⟨h0, h1, h2, h3, h4, h5⟩ := h
  rw [zm_59]
  simp (disch := first | assumption | omega | trivial) only [if_pos, if_neg, if_true, if_false, true_and, and_true, not_true_eq_false, not_false_eq_true, false_and, and_false, Option.bind_some, zq_t, zq_f, zq0, zq1, zw_id, h1, h2, zx_sum (show 0 < a + 1 by omega) h4 (show (0 : Int) ≤ 40 ∧ (40 : Int) ≤ 1000 by omega) (by omega) hc hg]
/-! folds -/
theorem zx_Fhas (h : zs_fo S R a) : zG (d + 1) 1 [.inr (.inr a), .inl l] (S, I, R, T) = some (zq (0 ≤ l ∧ l < I a 0), (S, I, R, T)) := by
  obtain ⟨h0, h1, h2, h3, h4, h5⟩ := h
  rw [zm_1]
  by_cases g1 : l < 0 <;> by_cases g2 : l < I a 0 <;> simp (disch := first | assumption | omega | trivial) only [if_pos, if_neg, if_true, if_false, true_and, and_true, not_true_eq_false, not_false_eq_true, false_and, and_false, Option.bind_some, zq_t, zq_f, zq0, zq1, zw_id, h1]
theorem zx_firstOf (h : zs_fo S R a) : zG (d + 2) 2 [.inr (.inr a), .inl l] (S, I, R, T) = some (zk_pk I (a + 1) 8 l, (S, I, R, T)) := by
  obtain ⟨h0, h1, h2, h3, h4, h5, h6, h7⟩ := h
  rw [zm_2]
  simp (disch := first | assumption | omega | trivial) only [if_pos, if_neg, if_true, if_false, true_and, and_true, not_true_eq_false, not_false_eq_true, false_and, and_false, Option.bind_some, zq_t, zq_f, zq0, zq1, zw_id, h1, h2, zx_pick (show 0 < a + 1 by omega) h5]
theorem zx_lastOf (h : zs_fo S R a) : zG (d + 2) 3 [.inr (.inr a), .inl l] (S, I, R, T) = some (zk_pk I (a + 2) 8 l, (S, I, R, T)) := by
  obtain ⟨h0, h1, h2, h3, h4, h5, h6, h7⟩ := h
  rw [zm_3]
  simp (disch := first | assumption | omega | trivial) only [if_pos, if_neg, if_true, if_false, true_and, and_true, not_true_eq_false, not_false_eq_true, false_and, and_false, Option.bind_some, zq_t, zq_f, zq0, zq1, zw_id, h1, h3, zx_pick (show 0 < a + 2 by omega) h6]
theorem zx_isShut (h : zs_fo S R a) : zG (d + 2) 4 [.inr (.inr a), .inl l] (S, I, R, T) = some (zq (zk_pk I (a + 3) 8 l = 1), (S, I, R, T)) := by
  obtain ⟨h0, h1, h2, h3, h4, h5, h6, h7⟩ := h
  rw [zm_4]
  by_cases g : zk_pk I (a + 3) 8 l = 1 <;> simp (disch := first | assumption | omega | trivial) only [if_pos, if_neg, if_true, if_false, true_and, and_true, not_true_eq_false, not_false_eq_true, false_and, and_false, Option.bind_some, zq_t, zq_f, zq0, zq1, zw_id, h1, h4, zx_pick (show 0 < a + 3 by omega) h7]
theorem zx_setShut (h : zs_fo S R a) : zG (d + 2) 5 [.inr (.inr a), .inl l, .inl v] (S, I, R, T) = some (0, (S, zk_pt I (a + 3) 8 l v, R, T)) := by
  obtain ⟨h0, h1, h2, h3, h4, h5, h6, h7⟩ := h
  rw [zm_5]
  simp (disch := first | assumption | omega | trivial) only [if_pos, if_neg, if_true, if_false, true_and, and_true, not_true_eq_false, not_false_eq_true, false_and, and_false, Option.bind_some, zq_t, zq_f, zq0, zq1, zw_id, h1, h4, zx_put (show 0 < a + 3 by omega) h7]
theorem zx_pickShut (h : zs_fo S R a) : zG (d + 1) 72 [.inr (.inr (a + 3)), .inl l] (S, I, R, T) = some (zk_pk I (a + 3) 8 l, (S, I, R, T)) := by
  obtain ⟨h0, h1, h2, h3, h4, h5, h6, h7⟩ := h
  exact zx_pick (by omega) h7
theorem zx_write (h : zs_fo S R a) (hl : 0 ≤ l ∧ l < 8) : zG (d + 2) 18 [.inr (.inr a), .inl l, .inl v, .inl c, .inl c'] (S, I, R, T) = some (0, (S, zi_up (zi_up (zi_up I (a + 1) l v) (a + 2) l c) (a + 3) l c', R, T)) := by
  obtain ⟨h0, h1, h2, h3, h4, h5, h6, h7⟩ := h
  rw [zm_18]
  simp (disch := first | assumption | omega | trivial) only [if_pos, if_neg, if_true, if_false, true_and, and_true, not_true_eq_false, not_false_eq_true, false_and, and_false, Option.bind_some, zq_t, zq_f, zq0, zq1, zw_id, h1, h2, h3, h4, zx_put (show 0 < a + 1 by omega) h5, zx_put (show 0 < a + 2 by omega) h6, zx_put (show 0 < a + 3 by omega) h7, zk_pt_in]
theorem zx_odds : zG (d + 1) 16 [.inl a, .inl b, .inl c, .inl c'] (S, I, R, T) = some (zq (zf_odds a b c c'), (S, I, R, T)) := by
  rw [zm_16]
  unfold zf_odds
  by_cases h1 : a = c <;> by_cases h2 : b = c' <;> by_cases h3 : b < c <;> by_cases h4 : c' < a <;> by_cases h5 : c < a <;> by_cases h6 : b < c' <;> by_cases h7 : a < c <;> by_cases h8 : c' < b <;> first | (exfalso; omega) | simp (disch := first | assumption | omega | trivial) only [if_pos, if_neg, if_true, if_false, true_and, and_true, not_true_eq_false, not_false_eq_true, false_and, and_false, Option.bind_some, zq_t, zq_f, zq0, zq1, zw_id, zk_16_12, zk_16_27, zk_16_54]
theorem zx_ahead : zG (d + 1) 17 [.inl a, .inl b, .inl c, .inl c'] (S, I, R, T) = some (zq (zf_ahead a b c c'), (S, I, R, T)) := by
  rw [zm_17]
  unfold zf_ahead
  by_cases h1 : a < c <;> by_cases h2 : a = c <;> by_cases h3 : c' < b <;> simp (disch := first | assumption | omega | trivial) only [if_pos, if_neg, if_true, if_false, true_and, and_true, not_true_eq_false, not_false_eq_true, false_and, and_false, Option.bind_some, zq_t, zq_f, zq0, zq1, zw_id]
/-! folds: what is asked of all of them -/
def zf_hid (I : zI) (a l : Int) : Prop := ∃ k, (0 ≤ k ∧ k < I a 0) ∧ I (a + 3) k = 1 ∧ I (a + 1) k < l ∧ l ≤ I (a + 2) k
def zf_beh (I : zI) (a l : Int) : Prop := ∃ k, (0 ≤ k ∧ k < I a 0) ∧ I (a + 3) k = 1 ∧ I (a + 1) k = l
def zf_clash (I : zI) (a x y : Int) : Prop := ∃ k, (0 ≤ k ∧ k < I a 0) ∧ zf_odds (I (a + 1) k) (I (a + 2) k) x y
theorem zx_hides (h : zs_fo S R a) (hc : I a 0 ≤ 8) : zG (d + 3) 8 [.inr (.inr a), .inl l] (S, I, R, T) = some (zq (zf_hid I a l), (S, I, R, T)) := by
  rw [zm_8]
  have h1 := h.2.1
  refine zl_ex (n := I a 0) (run := fun w k => zi_run zt_8 (zG (d + 2)) w 2 [some (.inr (.inr a)), some (.inl l), some (.inl k)] [] (S, I, R, T)) (fun w k k0 k1 hp => ?_) (fun w k k0 k1 hp => ?_) (fun w k k0 k1 => ?_) (by omega) <;> (show zi_run _ _ _ _ _ _ _ = _) <;> rw [zk_8_2]
  · obtain ⟨p1, p2, p3⟩ := hp
    simp (disch := first | assumption | omega | trivial) only [if_pos, if_neg, if_true, if_false, true_and, and_true, not_true_eq_false, not_false_eq_true, false_and, and_false, Option.bind_some, zq_t, zq_f, zq0, zq1, zw_id, h1, zx_isShut h, zx_firstOf h, zx_lastOf h, zk_pk_in]
  · by_cases p1 : I (a + 3) k = 1 <;> by_cases p2 : I (a + 1) k < l <;> by_cases p3 : l ≤ I (a + 2) k <;> first | (exfalso; exact hp ⟨p1, p2, p3⟩) | simp (disch := first | assumption | omega | trivial) only [if_pos, if_neg, if_true, if_false, true_and, and_true, not_true_eq_false, not_false_eq_true, false_and, and_false, Option.bind_some, zq_t, zq_f, zq0, zq1, zw_id, h1, zx_isShut h, zx_firstOf h, zx_lastOf h, zk_pk_in]
  · simp (disch := first | assumption | omega | trivial) only [if_pos, if_neg, if_true, if_false, true_and, and_true, not_true_eq_false, not_false_eq_true, false_and, and_false, Option.bind_some, zq_t, zq_f, zq0, zq1, zw_id, h1]
theorem zx_shutsBehind (h : zs_fo S R a) (hc : I a 0 ≤ 8) : zG (d + 3) 9 [.inr (.inr a), .inl l] (S, I, R, T) = some (zq (zf_beh I a l), (S, I, R, T)) := by
  rw [zm_9]
  have h1 := h.2.1
  refine zl_ex (n := I a 0) (run := fun w k => zi_run zt_9 (zG (d + 2)) w 2 [some (.inr (.inr a)), some (.inl l), some (.inl k)] [] (S, I, R, T)) (fun w k k0 k1 hp => ?_) (fun w k k0 k1 hp => ?_) (fun w k k0 k1 => ?_) (by omega) <;> (show zi_run _ _ _ _ _ _ _ = _) <;> rw [zk_9_2]
  · obtain ⟨p1, p2⟩ := hp
    simp (disch := first | assumption | omega | trivial) only [if_pos, if_neg, if_true, if_false, true_and, and_true, not_true_eq_false, not_false_eq_true, false_and, and_false, Option.bind_some, zq_t, zq_f, zq0, zq1, zw_id, h1, zx_isShut h, zx_firstOf h, zx_lastOf h, zk_pk_in]
  · by_cases p1 : I (a + 3) k = 1 <;> by_cases p2 : I (a + 1) k = l <;> first | (exfalso; exact hp ⟨p1, p2⟩) | simp (disch := first | assumption | omega | trivial) only [if_pos, if_neg, if_true, if_false, true_and, and_true, not_true_eq_false, not_false_eq_true, false_and, and_false, Option.bind_some, zq_t, zq_f, zq0, zq1, zw_id, h1, zx_isShut h, zx_firstOf h, zx_lastOf h, zk_pk_in]
  · simp (disch := first | assumption | omega | trivial) only [if_pos, if_neg, if_true, if_false, true_and, and_true, not_true_eq_false, not_false_eq_true, false_and, and_false, Option.bind_some, zq_t, zq_f, zq0, zq1, zw_id, h1]
theorem zx_clash (h : zs_fo S R a) (hc : I a 0 ≤ 8) : zG (d + 3) 10 [.inr (.inr a), .inl b, .inl c] (S, I, R, T) = some (zq (zf_clash I a b c), (S, I, R, T)) := by
  rw [zm_10]
  have h1 := h.2.1
  refine zl_ex (n := I a 0) (run := fun w k => zi_run zt_10 (zG (d + 2)) w 2 [some (.inr (.inr a)), some (.inl b), some (.inl c), some (.inl k)] [] (S, I, R, T)) (fun w k k0 k1 hp => ?_) (fun w k k0 k1 hp => ?_) (fun w k k0 k1 => ?_) (by omega) <;> (show zi_run _ _ _ _ _ _ _ = _) <;> rw [zk_10_2]
  · simp (disch := first | assumption | omega | trivial) only [if_pos, if_neg, if_true, if_false, true_and, and_true, not_true_eq_false, not_false_eq_true, false_and, and_false, Option.bind_some, zq_t, zq_f, zq0, zq1, zw_id, h1, zx_firstOf h, zx_lastOf h, zk_pk_in, zx_odds]
  · simp (disch := first | assumption | omega | trivial) only [if_pos, if_neg, if_true, if_false, true_and, and_true, not_true_eq_false, not_false_eq_true, false_and, and_false, Option.bind_some, zq_t, zq_f, zq0, zq1, zw_id, h1, zx_firstOf h, zx_lastOf h, zk_pk_in, zx_odds]
  · simp (disch := first | assumption | omega | trivial) only [if_pos, if_neg, if_true, if_false, true_and, and_true, not_true_eq_false, not_false_eq_true, false_and, and_false, Option.bind_some, zq_t, zq_f, zq0, zq1, zw_id, h1]
theorem zx_shutCount (h : zs_fo S R a) (hc : 0 ≤ I a 0 ∧ I a 0 ≤ 8) (hg : ∀ j, 0 ≤ j → j < I a 0 → 0 ≤ I (a + 3) j ∧ I (a + 3) j ≤ 1) : zG (d + 3) 6 [.inr (.inr a)] (S, I, R, T) = some (zk_sm (I (a + 3)) (I a 0), (S, I, R, T)) := by
  obtain ⟨h0, h1, h2, h3, h4, h5, h6, h7⟩ := h
  rw [zm_6]
  simp (disch := first | assumption | omega | trivial) only [if_pos, if_neg, if_true, if_false, true_and, and_true, not_true_eq_false, not_false_eq_true, false_and, and_false, Option.bind_some, zq_t, zq_f, zq0, zq1, zw_id, h1, h4, zx_sum (show 0 < a + 3 by omega) h7 (show (0 : Int) ≤ 1 ∧ (1 : Int) ≤ 1000 by omega) (by omega) hc hg]
def zf_in (a b c d : Int) : Prop := a ≤ c ∧ d ≤ b
theorem zx_depthOf (h : zs_fo S R a) (hc : 0 ≤ I a 0 ∧ I a 0 ≤ 8) (hl : 0 ≤ l ∧ l < I a 0) : zG (d + 3) 7 [.inr (.inr a), .inl l] (S, I, R, T) = some (zk_sm (fun j => zq (¬ j = l ∧ zf_in (I (a + 1) j) (I (a + 2) j) (I (a + 1) l) (I (a + 2) l))) (I a 0), (S, I, R, T)) := by
  rw [zm_7]
  have h1 := h.2.1
  refine zl_sum (n := I a 0) (run := fun w k s => zi_run zt_7 (zG (d + 2)) w 4 [some (.inr (.inr a)), some (.inl l), some (.inl s), some (.inl k)] [] (S, I, R, T)) hc.1 (fun w k k0 k1 => ?_) (fun w => ?_) (by omega) <;> (show zi_run _ _ _ _ _ _ _ = _) <;> rw [zk_7_4]
  · have hs := zk_sm_ir (g := fun j => zq (¬ j = l ∧ zf_in (I (a + 1) j) (I (a + 2) j) (I (a + 1) l) (I (a + 2) l))) (m := 1) k0 (fun j _ _ => by have := zq01 (P := ¬ j = l ∧ zf_in (I (a + 1) j) (I (a + 2) j) (I (a + 1) l) (I (a + 2) l)); show 0 ≤ zq _ ∧ zq _ ≤ 1; omega)
    generalize zk_sm _ k = s at hs ⊢
    unfold zf_in
    by_cases p1 : k = l
    · subst p1
      simp (disch := first | assumption | omega | trivial) only [if_pos, if_neg, if_true, if_false, true_and, and_true, not_true_eq_false, not_false_eq_true, false_and, and_false, Option.bind_some, zq_t, zq_f, zq0, zq1, zw_id, h1, Int.add_zero]
    · by_cases p2 : I (a + 1) l < I (a + 1) k <;> by_cases p3 : I (a + 2) k < I (a + 2) l <;> simp (disch := first | assumption | omega | trivial) only [if_pos, if_neg, if_true, if_false, true_and, and_true, not_true_eq_false, not_false_eq_true, false_and, and_false, Option.bind_some, zq_t, zq_f, zq0, zq1, zw_id, h1, zx_firstOf h, zx_lastOf h, zk_pk_in, Int.add_zero]
  · generalize zk_sm _ (I a 0) = s
    simp (disch := first | assumption | omega | trivial) only [if_pos, if_neg, if_true, if_false, true_and, and_true, not_true_eq_false, not_false_eq_true, false_and, and_false, Option.bind_some, zq_t, zq_f, zq0, zq1, zw_id, h1]
end ZRd
