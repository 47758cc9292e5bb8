/-! the reference: what is read of its page -/
def zs_mo (S : zS) (R : zI) (a : Int) : Prop := (0 < a ∧ (S a).1 = 11) ∧ (R a 0 = a + 1 ∧ R a 1 = a + 2 ∧ R a 2 = a + 3 ∧ R a 3 = a + 4 ∧ R a 11 = a + 5 ∧ R a 14 = a + 6 ∧ R a 17 = a + 7 ∧ R a 18 = a + 8 ∧ R a 19 = a + 9 ∧ R a 20 = a + 10 ∧ R a 21 = a + 11 ∧ R a 24 = a + 12 ∧ R a 25 = a + 13 ∧ R a 26 = a + 14 ∧ R a 27 = a + 15 ∧ R a 28 = a + 16) ∧ S (a + 1) = (12, 520) ∧ S (a + 2) = (12, 520) ∧ S (a + 3) = (12, 8320) ∧ S (a + 4) = (12, 8320) ∧ S (a + 5) = (12, 400) ∧ S (a + 6) = (12, 8) ∧ S (a + 7) = (12, 41) ∧ S (a + 8) = (12, 41) ∧ S (a + 9) = (12, 41) ∧ S (a + 10) = (13, 41) ∧ S (a + 11) = (12, 42) ∧ S (a + 12) = (13, 2) ∧ S (a + 13) = (12, 1048) ∧ S (a + 14) = (12, 4) ∧ S (a + 15) = (12, 4) ∧ S (a + 16) = (12, 80)
theorem zl_any {n : Int} {p : Int → Prop} {run : Nat → Int → Int → zR} {σ : zM} (h1 : ∀ w k, 0 ≤ k → k < n → run (w + 1) 1 k = run w 1 (k + 1)) (h2 : ∀ w k, 0 ≤ k → k < n → p k → run (w + 1) 0 k = run w 1 (k + 1)) (h3 : ∀ w k, 0 ≤ k → k < n → ¬ p k → run (w + 1) 0 k = run w 0 (k + 1)) (h4 : ∀ w k b, 0 ≤ k → n ≤ k → (b = 0 ∨ b = 1) → run (w + 1) b k = some (b, σ)) {w : Nat} (hw : n.toNat < w) : run w 0 0 = some (zq (∃ k, (0 ≤ k ∧ k < n) ∧ p k), σ) := by
  have yes : ∀ (w : Nat) (k : Int), 0 ≤ k → (n - k).toNat < w → run w 1 k = some (1, σ) := by
    intro w
    induction w with
    | zero => intro k _ h; omega
    | succ w ih =>
      intro k hk hm
      by_cases hn : k < n
      · rw [h1 w k hk hn]; exact ih (k + 1) (by omega) (by omega)
      · exact h4 w k 1 hk (by omega) (Or.inr rfl)
  have key : ∀ (w : Nat) (k : Int), 0 ≤ k → (∀ j, 0 ≤ j → j < k → ¬ p j) → (n - k).toNat < w → run w 0 k = some (zq (∃ k, (0 ≤ k ∧ k < n) ∧ p k), σ) := by
    intro w
    induction w with
    | zero => intro k _ _ h; omega
    | succ w ih =>
      intro k hk hp hm
      by_cases hn : k < n
      · by_cases hpk : p k
        · rw [h2 w k hk hn hpk, yes w (k + 1) (by omega) (by omega), zq_t ⟨k, ⟨hk, hn⟩, hpk⟩]
        · rw [h3 w k hk hn hpk]
          refine ih (k + 1) (by omega) (fun j hj hjk => ?_) (by omega)
          by_cases hjj : j = k
          · subst hjj; exact hpk
          · exact hp j hj (by omega)
      · rw [h4 w k 0 hk (by omega) (Or.inl rfl), zq_f]
        rintro ⟨j, ⟨a, b⟩, c⟩
        exact hp j a (by omega) c
  exact key w 0 (by omega) (fun j a b => absurd b (by omega)) (by omega)
section ZMo
variable {d : Nat} {S : zS} {I J R : zI} {T : Int × Nat} {a b n v l f c m k x y z r i p : Int}
theorem zy_in : zG (d + 1) 153 [.inr (.inl x), .inr (.inl y), .inr (.inl z)] (S, I, R, T) = some (zq (y ≤ x ∧ x ≤ z), (S, I, R, T)) := by
  rw [zm_153]
  by_cases h1 : x < y
  · ((try simp only [zbd_conv]); simp (disch := first | assumption | omega | trivial) only [↓reduceIte, zbd_some, eq_self, Int.reduceEq, Int.reduceLT, Int.reduceLE, and_self, or_true, true_or, or_false, false_or, if_pos, if_neg, if_true, if_false, true_and, and_true, not_true_eq_false, not_false_eq_true, false_and, and_false, Option.bind_some, zq_t, zq_f, zq0, zq1, zw_id])
  · by_cases h2 : x = y
    · by_cases h3 : z < x
      · ((try simp only [zbd_conv]); simp (disch := first | assumption | omega | trivial) only [↓reduceIte, zbd_some, eq_self, Int.reduceEq, Int.reduceLT, Int.reduceLE, and_self, or_true, true_or, or_false, false_or, if_pos, if_neg, if_true, if_false, true_and, and_true, not_true_eq_false, not_false_eq_true, false_and, and_false, Option.bind_some, zq_t, zq_f, zq0, zq1, zw_id])
      · by_cases h4 : x = z <;> ((try simp only [zbd_conv]); simp (disch := first | assumption | omega | trivial) only [↓reduceIte, zbd_some, eq_self, Int.reduceEq, Int.reduceLT, Int.reduceLE, and_self, or_true, true_or, or_false, false_or, if_pos, if_neg, if_true, if_false, true_and, and_true, not_true_eq_false, not_false_eq_true, false_and, and_false, Option.bind_some, zq_t, zq_f, zq0, zq1, zw_id])
    · by_cases h3 : z < x
      · ((try simp only [zbd_conv]); simp (disch := first | assumption | omega | trivial) only [↓reduceIte, zbd_some, eq_self, Int.reduceEq, Int.reduceLT, Int.reduceLE, and_self, or_true, true_or, or_false, false_or, if_pos, if_neg, if_true, if_false, true_and, and_true, not_true_eq_false, not_false_eq_true, false_and, and_false, Option.bind_some, zq_t, zq_f, zq0, zq1, zw_id])
      · by_cases h4 : x = z <;> ((try simp only [zbd_conv]); simp (disch := first | assumption | omega | trivial) only [↓reduceIte, zbd_some, eq_self, Int.reduceEq, Int.reduceLT, Int.reduceLE, and_self, or_true, true_or, or_false, false_or, if_pos, if_neg, if_true, if_false, true_and, and_true, not_true_eq_false, not_false_eq_true, false_and, and_false, Option.bind_some, zq_t, zq_f, zq0, zq1, zw_id])
theorem zy_isNarrow : zG (d + 2) 154 [.inl c] (S, I, R, T) = some (zq (97 ≤ c ∧ c ≤ 122), (S, I, R, T)) := by
  rw [zm_154]
  by_cases g : 97 ≤ c ∧ c ≤ 122 <;> ((try simp only [zbd_conv]); simp (disch := first | assumption | omega | trivial) only [↓reduceIte, zbd_some, eq_self, Int.reduceEq, Int.reduceLT, Int.reduceLE, and_self, or_true, true_or, or_false, false_or, if_pos, if_neg, if_true, if_false, true_and, and_true, not_true_eq_false, not_false_eq_true, false_and, and_false, Option.bind_some, zq_t, zq_f, zq0, zq1, zw_id, zy_in])
theorem zy_isWide : zG (d + 2) 155 [.inl c] (S, I, R, T) = some (zq (zf_wide c), (S, I, R, T)) := by
  rw [zm_155]
  unfold zf_wide
  by_cases g : 65 ≤ c ∧ c ≤ 90 <;> ((try simp only [zbd_conv]); simp (disch := first | assumption | omega | trivial) only [↓reduceIte, zbd_some, eq_self, Int.reduceEq, Int.reduceLT, Int.reduceLE, and_self, or_true, true_or, or_false, false_or, if_pos, if_neg, if_true, if_false, true_and, and_true, not_true_eq_false, not_false_eq_true, false_and, and_false, Option.bind_some, zq_t, zq_f, zq0, zq1, zw_id, zy_in])
theorem zy_isSign : zG (d + 3) 156 [.inl c] (S, I, R, T) = some (zq (zf_sign c), (S, I, R, T)) := by
  rw [zm_156]
  unfold zf_sign
  by_cases h1 : 97 ≤ c ∧ c ≤ 122
  · ((try simp only [zbd_conv]); simp (disch := first | assumption | omega | trivial) only [↓reduceIte, zbd_some, eq_self, Int.reduceEq, Int.reduceLT, Int.reduceLE, and_self, or_true, true_or, or_false, false_or, if_pos, if_neg, if_true, if_false, true_and, and_true, not_true_eq_false, not_false_eq_true, false_and, and_false, Option.bind_some, zq_t, zq_f, zq0, zq1, zw_id, zy_isNarrow])
  · by_cases h3 : 65 ≤ c ∧ c ≤ 90
    · ((try simp only [zbd_conv]); simp (disch := first | assumption | omega | trivial) only [↓reduceIte, zbd_some, eq_self, Int.reduceEq, Int.reduceLT, Int.reduceLE, and_self, or_true, true_or, or_false, false_or, if_pos, if_neg, if_true, if_false, true_and, and_true, not_true_eq_false, not_false_eq_true, false_and, and_false, Option.bind_some, zq_t, zq_f, zq0, zq1, zw_id, zy_isNarrow, zy_isWide, zf_wide])
    · by_cases h4 : c = 32
      · ((try simp only [zbd_conv]); simp (disch := first | assumption | omega | trivial) only [↓reduceIte, zbd_some, eq_self, Int.reduceEq, Int.reduceLT, Int.reduceLE, and_self, or_true, true_or, or_false, false_or, if_pos, if_neg, if_true, if_false, true_and, and_true, not_true_eq_false, not_false_eq_true, false_and, and_false, Option.bind_some, zq_t, zq_f, zq0, zq1, zw_id, zy_isNarrow, zy_isWide, zf_wide])
      · by_cases h5 : c = 45
        · ((try simp only [zbd_conv]); simp (disch := first | assumption | omega | trivial) only [↓reduceIte, zbd_some, eq_self, Int.reduceEq, Int.reduceLT, Int.reduceLE, and_self, or_true, true_or, or_false, false_or, if_pos, if_neg, if_true, if_false, true_and, and_true, not_true_eq_false, not_false_eq_true, false_and, and_false, Option.bind_some, zq_t, zq_f, zq0, zq1, zw_id, zy_isNarrow, zy_isWide, zf_wide])
        · by_cases h6 : c = 9
          · ((try simp only [zbd_conv]); simp (disch := first | assumption | omega | trivial) only [↓reduceIte, zbd_some, eq_self, Int.reduceEq, Int.reduceLT, Int.reduceLE, and_self, or_true, true_or, or_false, false_or, if_pos, if_neg, if_true, if_false, true_and, and_true, not_true_eq_false, not_false_eq_true, false_and, and_false, Option.bind_some, zq_t, zq_f, zq0, zq1, zw_id, zy_isNarrow, zy_isWide, zf_wide])
          · by_cases h7 : c = 126 <;> ((try simp only [zbd_conv]); simp (disch := first | assumption | omega | trivial) only [↓reduceIte, zbd_some, eq_self, Int.reduceEq, Int.reduceLT, Int.reduceLE, and_self, or_true, true_or, or_false, false_or, if_pos, if_neg, if_true, if_false, true_and, and_true, not_true_eq_false, not_false_eq_true, false_and, and_false, Option.bind_some, zq_t, zq_f, zq0, zq1, zw_id, zy_isNarrow, zy_isWide, zf_wide])
theorem zy_len (h : zs_mo S R a) (hl : -1 ≤ l ∧ l < 500) : zG (d + 1) 157 [.inr (.inr a), .inl l] (S, I, R, T) = some (I (a + 1) (1 + l), (S, I, R, T)) := by
  obtain ⟨⟨h0, h1⟩, ⟨r0, r1, r2, r3, r11, r14, r17, r18, r19, r20, r21, r24, r25, r26, r27, r28⟩, s1, s2, s3, s4, s5, s6, s7, s8, s9, s10, s11, s12, s13, s14, s15, s16⟩ := id h
  rw [zm_157]
  ((try simp only [zbd_conv]); simp (disch := first | assumption | omega | trivial) only [↓reduceIte, zbd_some, eq_self, Int.reduceEq, Int.reduceLT, Int.reduceLE, and_self, or_true, true_or, or_false, false_or, if_pos, if_neg, if_true, if_false, true_and, and_true, not_true_eq_false, not_false_eq_true, false_and, and_false, Option.bind_some, zq_t, zq_f, zq0, zq1, zw_id, h1, r0, s1])
theorem zy_signOf (h : zs_mo S R a) (hl : 0 ≤ l ∧ l < 12) (hi : 0 ≤ i ∧ i ≤ 40) : zG (d + 1) 158 [.inr (.inr a), .inl l, .inl i] (S, I, R, T) = some (I (a + 1) (13 + 40 * l + i), (S, I, R, T)) := by
  obtain ⟨⟨h0, h1⟩, ⟨r0, r1, r2, r3, r11, r14, r17, r18, r19, r20, r21, r24, r25, r26, r27, r28⟩, s1, s2, s3, s4, s5, s6, s7, s8, s9, s10, s11, s12, s13, s14, s15, s16⟩ := id h
  rw [zm_158]
  ((try simp only [zbd_conv]); simp (disch := first | assumption | omega | trivial) only [↓reduceIte, zbd_some, eq_self, Int.reduceEq, Int.reduceLT, Int.reduceLE, and_self, or_true, true_or, or_false, false_or, if_pos, if_neg, if_true, if_false, true_and, and_true, not_true_eq_false, not_false_eq_true, false_and, and_false, Option.bind_some, zq_t, zq_f, zq0, zq1, zw_id, h1, r0, s1])
theorem zy_firstOf (h : zs_mo S R a) (hl : 0 ≤ k ∧ k < 8) : zG (d + 1) 159 [.inr (.inr a), .inl k] (S, I, R, T) = some (I (a + 1) (494 + 3 * k), (S, I, R, T)) := by
  obtain ⟨⟨h0, h1⟩, ⟨r0, r1, r2, r3, r11, r14, r17, r18, r19, r20, r21, r24, r25, r26, r27, r28⟩, s1, s2, s3, s4, s5, s6, s7, s8, s9, s10, s11, s12, s13, s14, s15, s16⟩ := id h
  rw [zm_159]
  ((try simp only [zbd_conv]); simp (disch := first | assumption | omega | trivial) only [↓reduceIte, zbd_some, eq_self, Int.reduceEq, Int.reduceLT, Int.reduceLE, and_self, or_true, true_or, or_false, false_or, if_pos, if_neg, if_true, if_false, true_and, and_true, not_true_eq_false, not_false_eq_true, false_and, and_false, Option.bind_some, zq_t, zq_f, zq0, zq1, zw_id, h1, r0, s1])
theorem zy_lastOf (h : zs_mo S R a) (hl : 0 ≤ k ∧ k < 8) : zG (d + 1) 160 [.inr (.inr a), .inl k] (S, I, R, T) = some (I (a + 1) (495 + 3 * k), (S, I, R, T)) := by
  obtain ⟨⟨h0, h1⟩, ⟨r0, r1, r2, r3, r11, r14, r17, r18, r19, r20, r21, r24, r25, r26, r27, r28⟩, s1, s2, s3, s4, s5, s6, s7, s8, s9, s10, s11, s12, s13, s14, s15, s16⟩ := id h
  rw [zm_160, show 495 + 3 * k = 494 + 3 * k + 1 by omega]
  ((try simp only [zbd_conv]); simp (disch := first | assumption | omega | trivial) only [↓reduceIte, zbd_some, eq_self, Int.reduceEq, Int.reduceLT, Int.reduceLE, and_self, or_true, true_or, or_false, false_or, if_pos, if_neg, if_true, if_false, true_and, and_true, not_true_eq_false, not_false_eq_true, false_and, and_false, Option.bind_some, zq_t, zq_f, zq0, zq1, zw_id, h1, r0, s1])
theorem zy_isShut (h : zs_mo S R a) (hl : 0 ≤ k ∧ k < 8) : zG (d + 1) 161 [.inr (.inr a), .inl k] (S, I, R, T) = some (zq (I (a + 1) (496 + 3 * k) = 1), (S, I, R, T)) := by
  obtain ⟨⟨h0, h1⟩, ⟨r0, r1, r2, r3, r11, r14, r17, r18, r19, r20, r21, r24, r25, r26, r27, r28⟩, s1, s2, s3, s4, s5, s6, s7, s8, s9, s10, s11, s12, s13, s14, s15, s16⟩ := id h
  rw [zm_161, show 496 + 3 * k = 494 + 3 * k + 2 by omega]
  by_cases g : I (a + 1) (494 + 3 * k + 2) = 1 <;> ((try simp only [zbd_conv]); simp (disch := first | assumption | omega | trivial) only [↓reduceIte, zbd_some, eq_self, Int.reduceEq, Int.reduceLT, Int.reduceLE, and_self, or_true, true_or, or_false, false_or, if_pos, if_neg, if_true, if_false, true_and, and_true, not_true_eq_false, not_false_eq_true, false_and, and_false, Option.bind_some, zq_t, zq_f, zq0, zq1, zw_id, h1, r0, s1])
def zt_hid (P : Int → Int) (l : Int) : Prop := ∃ k, (0 ≤ k ∧ k < P 493) ∧ P (496 + 3 * k) = 1 ∧ P (494 + 3 * k) < l ∧ l ≤ P (495 + 3 * k)
def zt_beh (P : Int → Int) (l : Int) : Prop := ∃ k, (0 ≤ k ∧ k < P 493) ∧ P (496 + 3 * k) = 1 ∧ P (494 + 3 * k) = l
theorem zy_isHidden (h : zs_mo S R a) (hc : I (a + 1) 493 ≤ 8) : zG (d + 2) 162 [.inr (.inr a), .inl l] (S, I, R, T) = some (zq (zt_hid (I (a + 1)) l), (S, I, R, T)) := by
  obtain ⟨⟨h0, h1⟩, ⟨r0, r1, r2, r3, r11, r14, r17, r18, r19, r20, r21, r24, r25, r26, r27, r28⟩, s1, s2, s3, s4, s5, s6, s7, s8, s9, s10, s11, s12, s13, s14, s15, s16⟩ := id h
  rw [zm_162]
  refine zl_any (n := I (a + 1) 493) (run := fun w b k => zi_run zt_162 (zG (d + 1)) w 4 [some (.inr (.inr a)), some (.inl l), some (.inl b), some (.inl k)] [] (S, I, R, T)) (fun w k k0 k1 => ?_) (fun w k k0 k1 hp => ?_) (fun w k k0 k1 hp => ?_) (fun w k b k0 k1 hb => ?_) (by omega) <;> (show zi_run _ _ _ _ _ _ _ = _) <;> rw [zk_162_4]
  · ((try simp only [zbd_conv]); simp (disch := first | assumption | omega | trivial) only [↓reduceIte, zbd_some, eq_self, Int.reduceEq, Int.reduceLT, Int.reduceLE, and_self, or_true, true_or, or_false, false_or, if_pos, if_neg, if_true, if_false, true_and, and_true, not_true_eq_false, not_false_eq_true, false_and, and_false, Option.bind_some, zq_t, zq_f, zq0, zq1, zw_id, h1, r0, s1])
  · obtain ⟨p1, p2, p3⟩ := hp
    ((try simp only [zbd_conv]); simp (disch := first | assumption | omega | trivial) only [↓reduceIte, zbd_some, eq_self, Int.reduceEq, Int.reduceLT, Int.reduceLE, and_self, or_true, true_or, or_false, false_or, if_pos, if_neg, if_true, if_false, true_and, and_true, not_true_eq_false, not_false_eq_true, false_and, and_false, Option.bind_some, zq_t, zq_f, zq0, zq1, zw_id, h1, r0, s1, zy_isShut h, zy_firstOf h, zy_lastOf h])
  · by_cases p1 : I (a + 1) (496 + 3 * k) = 1 <;> by_cases p2 : I (a + 1) (494 + 3 * k) < l <;> by_cases p3 : I (a + 1) (495 + 3 * k) < l <;> first | (exfalso; exact hp ⟨p1, p2, by omega⟩) | ((try simp only [zbd_conv]); simp (disch := first | assumption | omega | trivial) only [↓reduceIte, zbd_some, eq_self, Int.reduceEq, Int.reduceLT, Int.reduceLE, and_self, or_true, true_or, or_false, false_or, if_pos, if_neg, if_true, if_false, true_and, and_true, not_true_eq_false, not_false_eq_true, false_and, and_false, Option.bind_some, zq_t, zq_f, zq0, zq1, zw_id, h1, r0, s1, zy_isShut h, zy_firstOf h, zy_lastOf h])
  · rcases hb with hb | hb <;> subst hb <;> ((try simp only [zbd_conv]); simp (disch := first | assumption | omega | trivial) only [↓reduceIte, zbd_some, eq_self, Int.reduceEq, Int.reduceLT, Int.reduceLE, and_self, or_true, true_or, or_false, false_or, if_pos, if_neg, if_true, if_false, true_and, and_true, not_true_eq_false, not_false_eq_true, false_and, and_false, Option.bind_some, zq_t, zq_f, zq0, zq1, zw_id, h1, r0, s1])
theorem zy_isShutAt (h : zs_mo S R a) (hc : I (a + 1) 493 ≤ 8) : zG (d + 2) 222 [.inr (.inr a), .inl l] (S, I, R, T) = some (zq (zt_beh (I (a + 1)) l), (S, I, R, T)) := by
  obtain ⟨⟨h0, h1⟩, ⟨r0, r1, r2, r3, r11, r14, r17, r18, r19, r20, r21, r24, r25, r26, r27, r28⟩, s1, s2, s3, s4, s5, s6, s7, s8, s9, s10, s11, s12, s13, s14, s15, s16⟩ := id h
  rw [zm_222]
  refine zl_any (n := I (a + 1) 493) (run := fun w b k => zi_run zt_222 (zG (d + 1)) w 4 [some (.inr (.inr a)), some (.inl l), some (.inl b), some (.inl k)] [] (S, I, R, T)) (fun w k k0 k1 => ?_) (fun w k k0 k1 hp => ?_) (fun w k k0 k1 hp => ?_) (fun w k b k0 k1 hb => ?_) (by omega) <;> (show zi_run _ _ _ _ _ _ _ = _) <;> rw [zk_222_4]
  · ((try simp only [zbd_conv]); simp (disch := first | assumption | omega | trivial) only [↓reduceIte, zbd_some, eq_self, Int.reduceEq, Int.reduceLT, Int.reduceLE, and_self, or_true, true_or, or_false, false_or, if_pos, if_neg, if_true, if_false, true_and, and_true, not_true_eq_false, not_false_eq_true, false_and, and_false, Option.bind_some, zq_t, zq_f, zq0, zq1, zw_id, h1, r0, s1])
  · obtain ⟨p1, p2⟩ := hp
    ((try simp only [zbd_conv]); simp (disch := first | assumption | omega | trivial) only [↓reduceIte, zbd_some, eq_self, Int.reduceEq, Int.reduceLT, Int.reduceLE, and_self, or_true, true_or, or_false, false_or, if_pos, if_neg, if_true, if_false, true_and, and_true, not_true_eq_false, not_false_eq_true, false_and, and_false, Option.bind_some, zq_t, zq_f, zq0, zq1, zw_id, h1, r0, s1, zy_isShut h, zy_firstOf h])
  · by_cases p1 : I (a + 1) (496 + 3 * k) = 1 <;> by_cases p2 : I (a + 1) (494 + 3 * k) = l <;> first | (exfalso; exact hp ⟨p1, p2⟩) | ((try simp only [zbd_conv]); simp (disch := first | assumption | omega | trivial) only [↓reduceIte, zbd_some, eq_self, Int.reduceEq, Int.reduceLT, Int.reduceLE, and_self, or_true, true_or, or_false, false_or, if_pos, if_neg, if_true, if_false, true_and, and_true, not_true_eq_false, not_false_eq_true, false_and, and_false, Option.bind_some, zq_t, zq_f, zq0, zq1, zw_id, h1, r0, s1, zy_isShut h, zy_firstOf h])
  · rcases hb with hb | hb <;> subst hb <;> ((try simp only [zbd_conv]); simp (disch := first | assumption | omega | trivial) only [↓reduceIte, zbd_some, eq_self, Int.reduceEq, Int.reduceLT, Int.reduceLE, and_self, or_true, true_or, or_false, false_or, if_pos, if_neg, if_true, if_false, true_and, and_true, not_true_eq_false, not_false_eq_true, false_and, and_false, Option.bind_some, zq_t, zq_f, zq0, zq1, zw_id, h1, r0, s1])
theorem zy_has : zG (d + 1) 163 [.inl x, .inl y, .inl z, .inl v] (S, I, R, T) = some (zq (x ≤ z ∧ v ≤ y), (S, I, R, T)) := by
  rw [zm_163]
  by_cases h1 : z < x <;> by_cases h2 : y < v <;> ((try simp only [zbd_conv]); simp (disch := first | assumption | omega | trivial) only [↓reduceIte, zbd_some, eq_self, Int.reduceEq, Int.reduceLT, Int.reduceLE, and_self, or_true, true_or, or_false, false_or, if_pos, if_neg, if_true, if_false, true_and, and_true, not_true_eq_false, not_false_eq_true, false_and, and_false, Option.bind_some, zq_t, zq_f, zq0, zq1, zw_id])
theorem zy_crosses : zG (d + 2) 164 [.inl x, .inl y, .inl z, .inl v] (S, I, R, T) = some (zq (x ≤ v ∧ z ≤ y ∧ ¬ (x ≤ z ∧ v ≤ y) ∧ ¬ (z ≤ x ∧ y ≤ v)), (S, I, R, T)) := by
  rw [zm_164]
  by_cases h1 : v < x
  · ((try simp only [zbd_conv]); simp (disch := first | assumption | omega | trivial) only [↓reduceIte, zbd_some, eq_self, Int.reduceEq, Int.reduceLT, Int.reduceLE, and_self, or_true, true_or, or_false, false_or, if_pos, if_neg, if_true, if_false, true_and, and_true, not_true_eq_false, not_false_eq_true, false_and, and_false, Option.bind_some, zq_t, zq_f, zq0, zq1, zw_id])
  · by_cases h2 : y < z
    · ((try simp only [zbd_conv]); simp (disch := first | assumption | omega | trivial) only [↓reduceIte, zbd_some, eq_self, Int.reduceEq, Int.reduceLT, Int.reduceLE, and_self, or_true, true_or, or_false, false_or, if_pos, if_neg, if_true, if_false, true_and, and_true, not_true_eq_false, not_false_eq_true, false_and, and_false, Option.bind_some, zq_t, zq_f, zq0, zq1, zw_id])
    · by_cases h3 : x ≤ z ∧ v ≤ y
      · ((try simp only [zbd_conv]); simp (disch := first | assumption | omega | trivial) only [↓reduceIte, zbd_some, eq_self, Int.reduceEq, Int.reduceLT, Int.reduceLE, and_self, or_true, true_or, or_false, false_or, if_pos, if_neg, if_true, if_false, true_and, and_true, not_true_eq_false, not_false_eq_true, false_and, and_false, Option.bind_some, zq_t, zq_f, zq0, zq1, zw_id, zy_has])
      · by_cases h4 : z ≤ x ∧ y ≤ v <;> ((try simp only [zbd_conv]); simp (disch := first | assumption | omega | trivial) only [↓reduceIte, zbd_some, eq_self, Int.reduceEq, Int.reduceLT, Int.reduceLE, and_self, or_true, true_or, or_false, false_or, if_pos, if_neg, if_true, if_false, true_and, and_true, not_true_eq_false, not_false_eq_true, false_and, and_false, Option.bind_some, zq_t, zq_f, zq0, zq1, zw_id, zy_has])
theorem zf_odds_iff {c d x y : Int} (hc : c < d) (hx : x < y) : zf_odds c d x y ↔ (x = c ∧ y = d) ∨ (x ≤ d ∧ c ≤ y ∧ ¬ (x ≤ c ∧ d ≤ y) ∧ ¬ (c ≤ x ∧ y ≤ d)) := by
  unfold zf_odds
  omega
theorem zy_against (hp : 0 < p ∧ S p = (12, 520)) (hc : I p 493 ≤ 8) (hw : ∀ k, 0 ≤ k → k < I p 493 → I p (494 + 3 * k) < I p (495 + 3 * k)) (hxy : x < y) : zG (d + 3) 165 [.inr (.inr p), .inl x, .inl y] (S, I, R, T) = some (zq (zt_ag (I p) x y), (S, I, R, T)) := by
  obtain ⟨p0, p1⟩ := hp
  have e5 : ∀ k : Int, 494 + 3 * k + 1 = 495 + 3 * k := fun k => by omega
  rw [zm_165]
  refine zl_any (n := I p 493) (run := fun w b k => zi_run zt_165 (zG (d + 2)) w 5 [some (.inr (.inr p)), some (.inl x), some (.inl y), some (.inl b), some (.inl k), none, none] [] (S, I, R, T)) (fun w k k0 k1 => ?_) (fun w k k0 k1 hp => ?_) (fun w k k0 k1 hp => ?_) (fun w k b k0 k1 hb => ?_) (by omega) <;> (show zi_run _ _ _ _ _ _ _ = _) <;> rw [zk_165_5]
  · ((try simp only [zbd_conv]); simp (disch := first | assumption | omega | trivial) only [↓reduceIte, zbd_some, eq_self, Int.reduceEq, Int.reduceLT, Int.reduceLE, and_self, or_true, true_or, or_false, false_or, if_pos, if_neg, if_true, if_false, true_and, and_true, not_true_eq_false, not_false_eq_true, false_and, and_false, Option.bind_some, zq_t, zq_f, zq0, zq1, zw_id, p1])
  · have hk := hw k k0 k1
    rw [zf_odds_iff hk hxy] at hp
    by_cases q1 : x = I p (494 + 3 * k) ∧ y = I p (495 + 3 * k)
    · ((try simp only [zbd_conv]); simp (disch := first | assumption | omega | trivial) only [↓reduceIte, zbd_some, eq_self, Int.reduceEq, Int.reduceLT, Int.reduceLE, and_self, or_true, true_or, or_false, false_or, if_pos, if_neg, if_true, if_false, true_and, and_true, not_true_eq_false, not_false_eq_true, false_and, and_false, Option.bind_some, zq_t, zq_f, zq0, zq1, zw_id, p1, e5])
    · have hp' := hp.resolve_left q1
      by_cases q2 : x = I p (494 + 3 * k)
      · ((try simp only [zbd_conv]); simp (disch := first | assumption | omega | trivial) only [↓reduceIte, zbd_some, eq_self, Int.reduceEq, Int.reduceLT, Int.reduceLE, and_self, or_true, true_or, or_false, false_or, if_pos, if_neg, if_true, if_false, true_and, and_true, not_true_eq_false, not_false_eq_true, false_and, and_false, Option.bind_some, zq_t, zq_f, zq0, zq1, zw_id, p1, e5, zy_crosses])
      · ((try simp only [zbd_conv]); simp (disch := first | assumption | omega | trivial) only [↓reduceIte, zbd_some, eq_self, Int.reduceEq, Int.reduceLT, Int.reduceLE, and_self, or_true, true_or, or_false, false_or, if_pos, if_neg, if_true, if_false, true_and, and_true, not_true_eq_false, not_false_eq_true, false_and, and_false, Option.bind_some, zq_t, zq_f, zq0, zq1, zw_id, p1, e5, zy_crosses])
  · have hk := hw k k0 k1
    rw [zf_odds_iff hk hxy] at hp
    have q1 : ¬ (x = I p (494 + 3 * k) ∧ y = I p (495 + 3 * k)) := fun z => hp (Or.inl z)
    have hp' : ¬ (x ≤ I p (495 + 3 * k) ∧ I p (494 + 3 * k) ≤ y ∧ ¬ (x ≤ I p (494 + 3 * k) ∧ I p (495 + 3 * k) ≤ y) ∧ ¬ (I p (494 + 3 * k) ≤ x ∧ y ≤ I p (495 + 3 * k))) := fun z => hp (Or.inr z)
    by_cases q2 : x = I p (494 + 3 * k)
    · ((try simp only [zbd_conv]); simp (disch := first | assumption | omega | trivial) only [↓reduceIte, zbd_some, eq_self, Int.reduceEq, Int.reduceLT, Int.reduceLE, and_self, or_true, true_or, or_false, false_or, if_pos, if_neg, if_true, if_false, true_and, and_true, not_true_eq_false, not_false_eq_true, false_and, and_false, Option.bind_some, zq_t, zq_f, zq0, zq1, zw_id, p1, e5, zy_crosses])
    · ((try simp only [zbd_conv]); simp (disch := first | assumption | omega | trivial) only [↓reduceIte, zbd_some, eq_self, Int.reduceEq, Int.reduceLT, Int.reduceLE, and_self, or_true, true_or, or_false, false_or, if_pos, if_neg, if_true, if_false, true_and, and_true, not_true_eq_false, not_false_eq_true, false_and, and_false, Option.bind_some, zq_t, zq_f, zq0, zq1, zw_id, p1, e5, zy_crosses])
  · rcases hb with hb | hb <;> subst hb <;> ((try simp only [zbd_conv]); simp (disch := first | assumption | omega | trivial) only [↓reduceIte, zbd_some, eq_self, Int.reduceEq, Int.reduceLT, Int.reduceLE, and_self, or_true, true_or, or_false, false_or, if_pos, if_neg, if_true, if_false, true_and, and_true, not_true_eq_false, not_false_eq_true, false_and, and_false, Option.bind_some, zq_t, zq_f, zq0, zq1, zw_id, p1])
/-- a row of the memory, put anew -/
def zt_row (I : zI) (p : Int) (Q : Int → Int) : zI := fun q j => if q = p then Q j else I q j
theorem zt_row_at {Q : Int → Int} {q j : Int} : zt_row I p Q q j = if q = p then Q j else I q j := rfl
theorem zt_row_eq {Q : Int → Int} : zt_row I p Q p = Q := by
  funext j
  rw [zt_row_at, if_pos rfl]
theorem zt_row_off {Q : Int → Int} {q : Int} (h : ¬ q = p) : zt_row I p Q q = I q := by
  funext j
  rw [zt_row_at, if_neg h]
theorem zt_row_up {Q : Int → Int} : zi_up (zt_row I p Q) p k v = zt_row I p (zt_up Q k v) := by
  funext q j
  rw [zi_up_at, zt_row_at, zt_row_at, zt_up_at]
  by_cases g : q = p
  · by_cases g2 : j = k
    · rw [if_pos ⟨g, g2⟩, if_pos g, if_pos g2]
    · rw [if_neg (by omega), if_pos g, if_pos g, if_neg g2]
  · rw [if_neg (by omega), if_neg g, if_neg g]
theorem zt_row_up0 : zi_up I p k v = zt_row I p (zt_up (I p) k v) := by
  funext q j
  rw [zi_up_at, zt_row_at, zt_up_at]
  by_cases g : q = p
  · by_cases g2 : j = k
    · rw [if_pos ⟨g, g2⟩, if_pos g, if_pos g2]
    · rw [if_neg (by omega), if_pos g, if_neg g2, g]
  · rw [if_neg (by omega), if_neg g]
theorem zt_row_self : zt_row I p (I p) = I := by
  funext q j
  rw [zt_row_at]
  split
  · rename_i h; rw [h]
  · rfl
theorem zt_row_row {Q Q' : Int → Int} : zt_row (zt_row I p Q) p Q' = zt_row I p Q' := by
  funext q j
  rw [zt_row_at, zt_row_at, zt_row_at]
  split <;> rfl
/-- folds from k on have moved on by one -/
def zt_sh (P : Int → Int) (n k : Int) : Int → Int := fun j => if 497 + 3 * k ≤ j ∧ j < 497 + 3 * n then P (j - 3) else P j
theorem zt_sh_at {P : Int → Int} {n k j : Int} : zt_sh P n k j = if 497 + 3 * k ≤ j ∧ j < 497 + 3 * n then P (j - 3) else P j := rfl
theorem zy_comes (hp : 0 < p ∧ S p = (12, 520)) (hc : 0 ≤ I p 493 ∧ I p 493 < 8) : zG (d + 1) 166 [.inr (.inr p), .inl x, .inl y, .inl v] (S, I, R, T) = some (zt_pos (I p) x y, (S, zt_row I p (zt_fins (I p) (I p 493) (zt_pos (I p) x y) x y v), R, T)) := by
  obtain ⟨p0, p1⟩ := hp
  obtain ⟨P, hP⟩ : ∃ P, P = I p := ⟨_, rfl⟩
  obtain ⟨n, hn⟩ : ∃ n, n = P 493 := ⟨_, rfl⟩
  rw [← hP] at hc
  rw [← hn] at hc
  have hpos := zt_pos_ok (P := P) (x := x) (y := y) (by omega)
  rw [← hn] at hpos
  rw [zm_166, ← hP, ← hn]
  have fin : ∀ (w : Nat) (k : Int), 0 ≤ k → k ≤ n → zi_run zt_166 (zG d) (w + 1) 109 [some (.inr (.inr p)), some (.inl x), some (.inl y), some (.inl v), some (.inl k), none] [] (S, zt_row I p (zt_sh P n k), R, T) = some (k, (S, zt_row I p (zt_fins P n k x y v), R, T)) := by
    intro w k k1 k2
    rw [zk_166_109]
    have e1 : zt_up (zt_up (zt_up (zt_sh P n k) (494 + 3 * k) x) (494 + 3 * k + 1) y) (494 + 3 * k + 2) v 493 = n := by
      rw [zt_up_ne (by omega), zt_up_ne (by omega), zt_up_ne (by omega), zt_sh_at, if_neg (by omega), hn]
    have e2 : zt_up (zt_up (zt_up (zt_up (zt_sh P n k) (494 + 3 * k) x) (494 + 3 * k + 1) y) (494 + 3 * k + 2) v) 493 (n + 1) = zt_fins P n k x y v := by
      funext j
      rw [zt_up_at, zt_up_at, zt_up_at, zt_up_at, zt_sh_at, zt_fins_at]
      by_cases g1 : j = 493
      · rw [if_pos g1, if_pos g1]
      · rw [if_neg g1, if_neg g1]
        by_cases g2 : j = 494 + 3 * k
        · rw [if_neg (by omega), if_neg (by omega), if_pos g2, if_pos g2]
        · rw [if_neg g2, if_neg g2]
          by_cases g3 : j = 495 + 3 * k
          · rw [if_neg (by omega), if_pos (by omega), if_pos g3]
          · rw [if_neg g3]
            by_cases g4 : j = 496 + 3 * k
            · rw [if_pos (by omega), if_pos g4]
            · rw [if_neg (by omega), if_neg (by omega), if_neg g4]
    ((try simp only [zbd_conv]); simp (disch := first | assumption | omega | trivial) only [↓reduceIte, zbd_some, eq_self, Int.reduceEq, Int.reduceLT, Int.reduceLE, and_self, or_true, true_or, or_false, false_or, if_pos, if_neg, if_true, if_false, true_and, and_true, not_true_eq_false, not_false_eq_true, false_and, and_false, Option.bind_some, zq_t, zq_f, zq0, zq1, zw_id, p1, zwr, zt_row_up, zt_row_eq, e1, e2])
  have three : ∀ (w : Nat) (k : Int), 0 < k → k ≤ n → zi_run zt_166 (zG d) (w + 4) 63 [some (.inr (.inr p)), some (.inl x), some (.inl y), some (.inl v), some (.inl k), some (.inl 0)] [] (S, zt_row I p (zt_sh P n k), R, T) = zi_run zt_166 (zG d) w 7 [some (.inr (.inr p)), some (.inl x), some (.inl y), some (.inl v), some (.inl (k + -1)), none] [] (S, zt_row I p (zt_sh P n (k - 1)), R, T) := by
    intro w k k1 k2
    rw [zk_166_63]
    ((try simp only [zbd_conv]); simp (disch := first | assumption | omega | trivial) only [↓reduceIte, zbd_some, eq_self, Int.reduceEq, Int.reduceLT, Int.reduceLE, and_self, or_true, true_or, or_false, false_or, if_pos, if_neg, if_true, if_false, true_and, and_true, not_true_eq_false, not_false_eq_true, false_and, and_false, Option.bind_some, zq_t, zq_f, zq0, zq1, zw_id, p1, zwr, zt_row_up, zt_row_eq])
    rw [zk_166_63]
    ((try simp only [zbd_conv]); simp (disch := first | assumption | omega | trivial) only [↓reduceIte, zbd_some, eq_self, Int.reduceEq, Int.reduceLT, Int.reduceLE, and_self, or_true, true_or, or_false, false_or, if_pos, if_neg, if_true, if_false, true_and, and_true, not_true_eq_false, not_false_eq_true, false_and, and_false, Option.bind_some, zq_t, zq_f, zq0, zq1, zw_id, p1, zwr, zt_row_up, zt_row_eq])
    rw [zk_166_63]
    ((try simp only [zbd_conv]); simp (disch := first | assumption | omega | trivial) only [↓reduceIte, zbd_some, eq_self, Int.reduceEq, Int.reduceLT, Int.reduceLE, and_self, or_true, true_or, or_false, false_or, if_pos, if_neg, if_true, if_false, true_and, and_true, not_true_eq_false, not_false_eq_true, false_and, and_false, Option.bind_some, zq_t, zq_f, zq0, zq1, zw_id, p1, zwr, zt_row_up, zt_row_eq])
    rw [zk_166_63]
    ((try simp only [zbd_conv]); simp (disch := first | assumption | omega | trivial) only [↓reduceIte, zbd_some, eq_self, Int.reduceEq, Int.reduceLT, Int.reduceLE, and_self, or_true, true_or, or_false, false_or, if_pos, if_neg, if_true, if_false, true_and, and_true, not_true_eq_false, not_false_eq_true, false_and, and_false, Option.bind_some, zq_t, zq_f, zq0, zq1, zw_id])
    refine zr_mem ?_ rfl
    refine congrArg (zt_row I p) ?_
    funext j
    by_cases g1 : j = 494 + 3 * k + 2
    · subst g1
      ((try simp only [zbd_conv]); simp (disch := first | assumption | omega | trivial) only [↓reduceIte, zbd_some, eq_self, Int.reduceEq, Int.reduceLT, Int.reduceLE, and_self, or_true, true_or, or_false, false_or, if_pos, if_neg, if_true, if_false, true_and, and_true, not_true_eq_false, not_false_eq_true, false_and, and_false, Option.bind_some, zq_t, zq_f, zq0, zq1, zw_id, zt_up_at, zt_sh_at])
      congr 1; omega
    · by_cases g2 : j = 494 + 3 * k + 1
      · subst g2
        ((try simp only [zbd_conv]); simp (disch := first | assumption | omega | trivial) only [↓reduceIte, zbd_some, eq_self, Int.reduceEq, Int.reduceLT, Int.reduceLE, and_self, or_true, true_or, or_false, false_or, if_pos, if_neg, if_true, if_false, true_and, and_true, not_true_eq_false, not_false_eq_true, false_and, and_false, Option.bind_some, zq_t, zq_f, zq0, zq1, zw_id, zt_up_at, zt_sh_at])
        congr 1; omega
      · by_cases g3 : j = 494 + 3 * k
        · subst g3
          ((try simp only [zbd_conv]); simp (disch := first | assumption | omega | trivial) only [↓reduceIte, zbd_some, eq_self, Int.reduceEq, Int.reduceLT, Int.reduceLE, and_self, or_true, true_or, or_false, false_or, if_pos, if_neg, if_true, if_false, true_and, and_true, not_true_eq_false, not_false_eq_true, false_and, and_false, Option.bind_some, zq_t, zq_f, zq0, zq1, zw_id, zt_up_at, zt_sh_at])
          congr 1; omega
        · by_cases g4 : 497 + 3 * k ≤ j ∧ j < 497 + 3 * n <;> ((try simp only [zbd_conv]); simp (disch := first | assumption | omega | trivial) only [↓reduceIte, zbd_some, eq_self, Int.reduceEq, Int.reduceLT, Int.reduceLE, and_self, or_true, true_or, or_false, false_or, if_pos, if_neg, if_true, if_false, true_and, and_true, not_true_eq_false, not_false_eq_true, false_and, and_false, Option.bind_some, zq_t, zq_f, zq0, zq1, zw_id, zt_up_at, zt_sh_at])
  have key : ∀ (u : Nat) (k : Int) (w : Nat), (u : Int) = k → k ≤ n → (∀ j, k ≤ j → j < n → zf_ahead x y (P (494 + 3 * j)) (P (495 + 3 * j))) → 5 * u + 2 ≤ w → zi_run zt_166 (zG d) w 7 [some (.inr (.inr p)), some (.inl x), some (.inl y), some (.inl v), some (.inl k), none] [] (S, zt_row I p (zt_sh P n k), R, T) = some (zt_pos P x y, (S, zt_row I p (zt_fins P n (zt_pos P x y) x y v), R, T)) := by
    intro u
    induction u with
    | zero =>
      intro k w k1 k2 kp k3
      obtain ⟨w, rfl⟩ : ∃ w', w = w' + 1 + 1 := ⟨w - 2, by omega⟩
      obtain rfl : k = 0 := by omega
      rw [zk_166_7]
      ((try simp only [zbd_conv]); simp (disch := first | assumption | omega | trivial) only [↓reduceIte, zbd_some, eq_self, Int.reduceEq, Int.reduceLT, Int.reduceLE, and_self, or_true, true_or, or_false, false_or, if_pos, if_neg, if_true, if_false, true_and, and_true, not_true_eq_false, not_false_eq_true, false_and, and_false, Option.bind_some, zq_t, zq_f, zq0, zq1, zw_id])
      rw [fin w 0 (by omega) (by omega)]
      have : (0 : Int) = zt_pos P x y := zf_pos_uniq ⟨by omega, kp, Or.inl rfl⟩ hpos (fun j _ _ => ⟨rfl, rfl⟩)
      rw [← this]
    | succ u ih =>
      intro k w k1 k2 kp k3
      obtain ⟨w, rfl⟩ : ∃ w', w = w' + 4 + 1 := ⟨w - 5, by omega⟩
      have q1 : zt_sh P n k (494 + 3 * k - 3) = P (494 + 3 * (k - 1)) := by rw [zt_sh_at, if_neg (by omega)]; congr 1; omega
      have q2 : zt_sh P n k (494 + 3 * k - 2) = P (495 + 3 * (k - 1)) := by rw [zt_sh_at, if_neg (by omega)]; congr 1; omega
      have done : ¬ zf_ahead x y (P (494 + 3 * (k - 1))) (P (495 + 3 * (k - 1))) → some (k, (S, zt_row I p (zt_fins P n k x y v), R, T)) = (some (zt_pos P x y, (S, zt_row I p (zt_fins P n (zt_pos P x y) x y v), R, T)) : zR) := by
        intro hna
        have : k = zt_pos P x y := zf_pos_uniq ⟨by omega, kp, Or.inr hna⟩ hpos (fun j _ _ => ⟨rfl, rfl⟩)
        rw [← this]
      have goon : zf_ahead x y (P (494 + 3 * (k - 1))) (P (495 + 3 * (k - 1))) → zi_run zt_166 (zG d) (w + 4) 63 [some (.inr (.inr p)), some (.inl x), some (.inl y), some (.inl v), some (.inl k), some (.inl 0)] [] (S, zt_row I p (zt_sh P n k), R, T) = some (zt_pos P x y, (S, zt_row I p (zt_fins P n (zt_pos P x y) x y v), R, T)) := by
        intro ha
        rw [three w k (by omega) k2]
        refine ih (k - 1) w (by omega) (by omega) (fun j j1 j2 => ?_) (by omega)
        by_cases hj : j = k - 1
        · rw [hj]; exact ha
        · exact kp j (by omega) j2
      rw [zk_166_7]
      by_cases g1 : x < P (494 + 3 * (k - 1))
      · ((try simp only [zbd_conv]); simp (disch := first | assumption | omega | trivial) only [↓reduceIte, zbd_some, eq_self, Int.reduceEq, Int.reduceLT, Int.reduceLE, and_self, or_true, true_or, or_false, false_or, if_pos, if_neg, if_true, if_false, true_and, and_true, not_true_eq_false, not_false_eq_true, false_and, and_false, Option.bind_some, zq_t, zq_f, zq0, zq1, zw_id, p1, zt_row_eq, q1])
        exact goon (Or.inl g1)
      · by_cases g2 : P (494 + 3 * (k - 1)) = x
        · by_cases g3 : P (495 + 3 * (k - 1)) < y
          · ((try simp only [zbd_conv]); simp (disch := first | assumption | omega | trivial) only [↓reduceIte, zbd_some, eq_self, Int.reduceEq, Int.reduceLT, Int.reduceLE, and_self, or_true, true_or, or_false, false_or, if_pos, if_neg, if_true, if_false, true_and, and_true, not_true_eq_false, not_false_eq_true, false_and, and_false, Option.bind_some, zq_t, zq_f, zq0, zq1, zw_id, p1, zt_row_eq, q1, q2])
            exact goon (Or.inr ⟨g2.symm, g3⟩)
          · ((try simp only [zbd_conv]); simp (disch := first | assumption | omega | trivial) only [↓reduceIte, zbd_some, eq_self, Int.reduceEq, Int.reduceLT, Int.reduceLE, and_self, or_true, true_or, or_false, false_or, if_pos, if_neg, if_true, if_false, true_and, and_true, not_true_eq_false, not_false_eq_true, false_and, and_false, Option.bind_some, zq_t, zq_f, zq0, zq1, zw_id, p1, zt_row_eq, q1, q2])
            rw [fin (w + 3) k (by omega) k2]
            exact done (by unfold zf_ahead; omega)
        · ((try simp only [zbd_conv]); simp (disch := first | assumption | omega | trivial) only [↓reduceIte, zbd_some, eq_self, Int.reduceEq, Int.reduceLT, Int.reduceLE, and_self, or_true, true_or, or_false, false_or, if_pos, if_neg, if_true, if_false, true_and, and_true, not_true_eq_false, not_false_eq_true, false_and, and_false, Option.bind_some, zq_t, zq_f, zq0, zq1, zw_id, p1, zt_row_eq, q1])
          rw [fin (w + 3) k (by omega) k2]
          exact done (by unfold zf_ahead; omega)
  have start := key n.toNat n 19999 (by omega) (by omega) (fun j j1 j2 => absurd j1 (by omega)) (by omega)
  have e0 : zt_sh P n n = P := by funext j; rw [zt_sh_at, if_neg (by omega)]
  rw [e0, hP, zt_row_self] at start
  rw [hP] at hn
  ((try simp only [zbd_conv]); simp (disch := first | assumption | omega | trivial) only [↓reduceIte, zbd_some, eq_self, Int.reduceEq, Int.reduceLT, Int.reduceLE, and_self, or_true, true_or, or_false, false_or, if_pos, if_neg, if_true, if_false, true_and, and_true, not_true_eq_false, not_false_eq_true, false_and, and_false, Option.bind_some, zq_t, zq_f, zq0, zq1, zw_id, p1, hn.symm])
  rw [hP]
  exact start
end ZMo
