/-! the class: a line is laid: what is looked for in it -/
section ZLf
variable {d : Nat} {S : zS} {I J R : zI} {T : Int × Nat} {a b i n v l f c c' m k x y r : Int} {s : Int → Int}
theorem zr_se_congr (h : zr_se I c) (e : J c = I c) : zr_se J c := by
  unfold zr_se at *
  rw [e]; exact h
theorem zx_leading (h : zs_ll S R a) (g : zs_li S R b) (hs : zs_se S c) (hr : zr_se I c) (hl : 0 ≤ l ∧ l < 12) (hn : I a 0 = n) (hn2 : 0 ≤ n ∧ n ≤ 40) (hsg : ∀ i, 0 ≤ i → i < n → I (b + 2) (l * 40 + i) = s i) : zG (d + 3) 50 [.inr (.inr a), .inr (.inr b), .inl l, .inr (.inr c)] (S, I, R, T) = some (zl_lead n (I c 1) s 41 0 0, (S, I, R, T)) ∧ 0 ≤ zl_lead n (I c 1) s 41 0 0 ∧ zl_lead n (I c 1) s 41 0 0 ≤ 400 := by
  rw [zm_50]
  have h1 := h.2.1
  have g1 := g.2.1
  have hs1 := hs.2
  have ht := hr.2.1
  have key : ∀ (u : Nat) (k col : Int) (w : Nat), (u : Int) + k = 41 → 0 ≤ k → k ≤ n → (0 ≤ col ∧ col ≤ 8 * k) → u < w → zi_run zt_50 (zG (d + 2)) w 6 [some (.inr (.inr a)), some (.inr (.inr b)), some (.inl l), some (.inr (.inr c)), some (.inl col), some (.inl k)] [] (S, I, R, T) = some (zl_lead n (I c 1) s u k col, (S, I, R, T)) ∧ 0 ≤ zl_lead n (I c 1) s u k col ∧ zl_lead n (I c 1) s u k col ≤ 400 := by
    intro u
    induction u with
    | zero => intro k col w q1 _ q2 _ _; omega
    | succ u ih =>
      intro k col w k1 k2 k3 k4 k5
      obtain ⟨w, rfl⟩ : ∃ w', w = w' + 1 := ⟨w - 1, by omega⟩
      rw [zk_50_6]
      have el : zl_lead n (I c 1) s (u + 1) k col = if k < n ∧ (s k = 32 ∨ s k = 9) then zl_lead n (I c 1) s u (k + 1) (col + (if s k = 9 then I c 1 - col % I c 1 else 1)) else col := rfl
      rw [el]
      by_cases hk : k < n
      · have es := hsg k k2 hk
        have m1 := Int.emod_nonneg col (show I c 1 ≠ 0 by omega)
        have m2 := Int.emod_lt_of_pos col (show 0 < I c 1 by omega)
        by_cases q1 : s k = 9
        · simp (disch := first | assumption | omega | trivial) only [if_pos, if_neg, if_true, if_false, true_and, and_true, not_true_eq_false, not_false_eq_true, false_and, and_false, Option.bind_some, zq_t, zq_f, zq0, zq1, zw_id, h1, g1, hs1, hn, zx_signOf g, zk_pk_in, es, zx_isGap, zf_gap, zx_tabStop hs hr]
          exact ih (k + 1) _ w (by omega) (by omega) (by omega) (by omega) (by omega)
        · by_cases q2 : s k = 32
          · simp (disch := first | assumption | omega | trivial) only [if_pos, if_neg, if_true, if_false, true_and, and_true, not_true_eq_false, not_false_eq_true, false_and, and_false, Option.bind_some, zq_t, zq_f, zq0, zq1, zw_id, h1, g1, hs1, hn, zx_signOf g, zk_pk_in, es, zx_isGap, zf_gap]
            exact ih (k + 1) _ w (by omega) (by omega) (by omega) (by omega) (by omega)
          · simp (disch := first | assumption | omega | trivial) only [if_pos, if_neg, if_true, if_false, true_and, and_true, not_true_eq_false, not_false_eq_true, false_and, and_false, Option.bind_some, zq_t, zq_f, zq0, zq1, zw_id, h1, g1, hs1, hn, zx_signOf g, zk_pk_in, es, zx_isGap, zf_gap]
            omega
      · simp (disch := first | assumption | omega | trivial) only [if_pos, if_neg, if_true, if_false, true_and, and_true, not_true_eq_false, not_false_eq_true, false_and, and_false, Option.bind_some, zq_t, zq_f, zq0, zq1, zw_id, h1, hn]
        omega
  exact key 41 0 0 1019999 (by omega) (by omega) (by omega) (by omega) (by omega)
/-! breaks -/
noncomputable def zp_fb (I : zI) (a n : Int) (s : Int → Int) (k : Int) : zI := fun q j => if q = a + 6 ∧ 0 ≤ j ∧ j < k then zq (zl_brk n s j) else I q j
theorem zp_fb_at {q j : Int} : zp_fb I a n s k q j = if q = a + 6 ∧ 0 ≤ j ∧ j < k then zq (zl_brk n s j) else I q j := rfl
theorem zp_fb_step (hk : 0 ≤ k) (hy : y = zq (zl_brk n s k)) : zi_up (zp_fb I a n s k) (a + 6) k y = zp_fb I a n s (k + 1) := by
  funext q j
  rw [zi_up_at, zp_fb_at, zp_fb_at]
  by_cases g : q = a + 6 ∧ j = k
  · obtain ⟨rfl, rfl⟩ := g
    rw [if_pos ⟨rfl, rfl⟩, if_pos ⟨rfl, by omega, by omega⟩, hy]
  · rw [if_neg g]
    by_cases g2 : q = a + 6 ∧ 0 ≤ j ∧ j < k
    · rw [if_pos g2, if_pos (by omega)]
    · rw [if_neg g2, if_neg (by omega)]
theorem zl_nr_S {k : Int} (h : 0 ≤ k) : zl_nr s (k + 1).toNat = if s k = 126 then zl_nr s k.toNat else s k := by
  obtain ⟨j, rfl⟩ : ∃ j : Nat, k = j := ⟨k.toNat, by omega⟩
  rw [show ((j : Int) + 1).toNat = j + 1 by omega, show ((j : Int)).toNat = j by omega]; rfl
theorem zx_findBreaks (h : zs_ll S R a) (g : zs_li S R b) (hab : a + 9 ≤ b ∨ b + 3 ≤ a) (hl : 0 ≤ l ∧ l < 12) (hn : I a 0 = n) (hn2 : 0 ≤ n ∧ n ≤ 40) (hsg : ∀ i, 0 ≤ i → i < n → I (b + 2) (l * 40 + i) = s i) : zG (d + 3) 51 [.inr (.inr a), .inr (.inr b), .inl l] (S, I, R, T) = some (0, (S, zp_fb I a n s (n + 1), R, T)) := by
  obtain ⟨h0, h1, ⟨r3, r4, r5, r6, r7, r8, r9, r10⟩, s1, s2, s3, s4, s5, s6, s7, s8⟩ := id h
  have g1 := g.2.1
  rw [zm_51]
  have key : ∀ (u : Nat) (k near : Int) (w : Nat), (u : Int) + k = n + 1 → 0 ≤ k → (k ≤ n → near = zl_nr s k.toNat) → 3 * u + 1 ≤ w → zi_run zt_51 (zG (d + 2)) w 6 [some (.inr (.inr a)), some (.inr (.inr b)), some (.inl l), some (.inl near), some (.inl k), none, none] [] (S, zp_fb I a n s k, R, T) = some (0, (S, zp_fb I a n s (n + 1), R, T)) := by
    intro u
    induction u with
    | zero =>
      intro k near w k1 k2 k3 k4
      obtain ⟨w, rfl⟩ : ∃ w', w = w' + 1 := ⟨w - 1, by omega⟩
      obtain rfl : k = n + 1 := by omega
      rw [zk_51_6]
      have hz : zp_fb I a n s (n + 1) a 0 = n := by unfold zp_fb; rw [if_neg (by omega), hn]
      simp (disch := first | assumption | omega | trivial) only [if_pos, if_neg, if_true, if_false, true_and, and_true, not_true_eq_false, not_false_eq_true, false_and, and_false, Option.bind_some, zq_t, zq_f, zq0, zq1, zw_id, h1, hz]
    | succ u ih =>
      intro k near w k1 k2 k3 k4
      obtain ⟨w, rfl⟩ : ∃ w', w = w' + 1 + 1 + 1 := ⟨w - 3, by omega⟩
      have kn : k ≤ n := by omega
      have hz : zp_fb I a n s k a 0 = n := by unfold zp_fb; rw [if_neg (by omega), hn]
      have hnear := k3 kn
      have step : ∀ c y, y = zq (zl_brk n s k) → (k < n → c = s k) → zi_run zt_51 (zG (d + 2)) (w + 1) 70 [some (.inr (.inr a)), some (.inr (.inr b)), some (.inl l), some (.inl near), some (.inl k), some (.inl c), none] [.inl y] (S, zp_fb I a n s k, R, T) = some (0, (S, zp_fb I a n s (n + 1), R, T)) := by
        intro c y hy hc
        have hy01 := zq01 (P := zl_brk n s k)
        rw [← hy] at hy01
        rw [zk_51_70]
        rcases hy01 with q | q
        · subst q
          have hm := zp_fb_step (I := I) (a := a) k2 hy
          by_cases hc6 : c = 126
          · simp (disch := first | assumption | omega | trivial) only [if_pos, if_neg, if_true, if_false, true_and, and_true, not_true_eq_false, not_false_eq_true, false_and, and_false, Option.bind_some, zq_t, zq_f, zq0, zq1, zw_id, h1, r8, zx_put (show 0 < a + 6 by omega) s6, zk_pt_in]
            refine zr_mem hm (ih (k + 1) near w (by omega) (by omega) (fun q => ?_) (by omega))
            rw [zl_nr_S k2, if_pos (by rw [← hc (by omega)]; exact hc6)]
            exact hnear
          · simp (disch := first | assumption | omega | trivial) only [if_pos, if_neg, if_true, if_false, true_and, and_true, not_true_eq_false, not_false_eq_true, false_and, and_false, Option.bind_some, zq_t, zq_f, zq0, zq1, zw_id, h1, r8, zx_put (show 0 < a + 6 by omega) s6, zk_pt_in]
            refine zr_mem hm (ih (k + 1) c w (by omega) (by omega) (fun q => ?_) (by omega))
            rw [zl_nr_S k2, if_neg (by rw [← hc (by omega)]; exact hc6)]
            exact hc (by omega)
        · subst q
          have hm := zp_fb_step (I := I) (a := a) k2 hy
          by_cases hc6 : c = 126
          · simp (disch := first | assumption | omega | trivial) only [if_pos, if_neg, if_true, if_false, true_and, and_true, not_true_eq_false, not_false_eq_true, false_and, and_false, Option.bind_some, zq_t, zq_f, zq0, zq1, zw_id, h1, r8, zx_put (show 0 < a + 6 by omega) s6, zk_pt_in]
            refine zr_mem hm (ih (k + 1) near w (by omega) (by omega) (fun q => ?_) (by omega))
            rw [zl_nr_S k2, if_pos (by rw [← hc (by omega)]; exact hc6)]
            exact hnear
          · simp (disch := first | assumption | omega | trivial) only [if_pos, if_neg, if_true, if_false, true_and, and_true, not_true_eq_false, not_false_eq_true, false_and, and_false, Option.bind_some, zq_t, zq_f, zq0, zq1, zw_id, h1, r8, zx_put (show 0 < a + 6 by omega) s6, zk_pt_in]
            refine zr_mem hm (ih (k + 1) c w (by omega) (by omega) (fun q => ?_) (by omega))
            rw [zl_nr_S k2, if_neg (by rw [← hc (by omega)]; exact hc6)]
            exact hc (by omega)
      have mid : ∀ c, (k < n → c = s k) → (zl_brk n s k ↔ 0 < k ∧ c ≠ 126 ∧ (zf_wide c ∨ zf_lets near)) → zi_run zt_51 (zG (d + 2)) (w + 1 + 1) 36 [some (.inr (.inr a)), some (.inr (.inr b)), some (.inl l), some (.inl near), some (.inl k), none, none] [.inl c] (S, zp_fb I a n s k, R, T) = some (0, (S, zp_fb I a n s (n + 1), R, T)) := by
        intro c hc hb
        rw [zk_51_36]
        by_cases q1 : 0 < k
        · by_cases q2 : c = 126
          · simp (disch := first | assumption | omega | trivial) only [if_pos, if_neg, if_true, if_false, true_and, and_true, not_true_eq_false, not_false_eq_true, false_and, and_false, Option.bind_some, zq_t, zq_f, zq0, zq1, zw_id]
            exact step c 0 (by rw [zq_f]; rw [hb]; exact fun q => q.2.1 q2) hc
          · by_cases q3 : zf_wide c
            · simp (disch := first | assumption | omega | trivial) only [if_pos, if_neg, if_true, if_false, true_and, and_true, not_true_eq_false, not_false_eq_true, false_and, and_false, Option.bind_some, zq_t, zq_f, zq0, zq1, zw_id, zx_isWide]
              exact step c 1 (by rw [zq_t]; rw [hb]; exact ⟨q1, q2, Or.inl q3⟩) hc
            · by_cases q4 : zf_lets near
              · simp (disch := first | assumption | omega | trivial) only [if_pos, if_neg, if_true, if_false, true_and, and_true, not_true_eq_false, not_false_eq_true, false_and, and_false, Option.bind_some, zq_t, zq_f, zq0, zq1, zw_id, zx_isWide, zx_lets]
                exact step c 1 (by rw [zq_t]; rw [hb]; exact ⟨q1, q2, Or.inr q4⟩) hc
              · simp (disch := first | assumption | omega | trivial) only [if_pos, if_neg, if_true, if_false, true_and, and_true, not_true_eq_false, not_false_eq_true, false_and, and_false, Option.bind_some, zq_t, zq_f, zq0, zq1, zw_id, zx_isWide, zx_lets]
                exact step c 0 (by rw [zq_f]; rw [hb]; rintro ⟨_, _, q | q⟩ <;> contradiction) hc
        · simp (disch := first | assumption | omega | trivial) only [if_pos, if_neg, if_true, if_false, true_and, and_true, not_true_eq_false, not_false_eq_true, false_and, and_false, Option.bind_some, zq_t, zq_f, zq0, zq1, zw_id]
          exact step c 0 (by rw [zq_f]; rw [hb]; exact fun q => q1 q.1) hc
      rw [zk_51_6]
      by_cases hk : k < n
      · have es : zp_fb I a n s k (b + 2) (l * 40 + k) = s k := by unfold zp_fb; rw [if_neg (by omega)]; exact hsg k k2 hk
        simp (disch := first | assumption | omega | trivial) only [if_pos, if_neg, if_true, if_false, true_and, and_true, not_true_eq_false, not_false_eq_true, false_and, and_false, Option.bind_some, zq_t, zq_f, zq0, zq1, zw_id, h1, g1, hz, zx_signOf g, zk_pk_in, es]
        refine mid (s k) (fun _ => rfl) ?_
        rw [hnear]
        unfold zl_brk zl_let zl_gap zl_wide zf_wide zf_lets
        constructor
        · rintro ⟨p1, p2, p3, p4 | (p4 | p4) | p4 | p4⟩
          · exact ⟨p1, p3, Or.inl p4⟩
          · exact ⟨p1, p3, Or.inr (Or.inl p4)⟩
          · exact ⟨p1, p3, Or.inr (Or.inr (Or.inl p4))⟩
          · exact ⟨p1, p3, Or.inr (Or.inr (Or.inr (Or.inl p4)))⟩
          · exact ⟨p1, p3, Or.inr (Or.inr (Or.inr (Or.inr p4)))⟩
        · rintro ⟨p1, p3, p4 | p4 | p4 | p4 | p4⟩
          · exact ⟨p1, hk, p3, Or.inl p4⟩
          · exact ⟨p1, hk, p3, Or.inr (Or.inl (Or.inl p4))⟩
          · exact ⟨p1, hk, p3, Or.inr (Or.inl (Or.inr p4))⟩
          · exact ⟨p1, hk, p3, Or.inr (Or.inr (Or.inl p4))⟩
          · exact ⟨p1, hk, p3, Or.inr (Or.inr (Or.inr p4))⟩
      · simp (disch := first | assumption | omega | trivial) only [if_pos, if_neg, if_true, if_false, true_and, and_true, not_true_eq_false, not_false_eq_true, false_and, and_false, Option.bind_some, zq_t, zq_f, zq0, zq1, zw_id, h1, hz]
        exact mid 126 (fun q => absurd q hk) ⟨fun q => absurd q.2.1 hk, fun q => absurd rfl q.2.1⟩
  refine zr_mem ?_ (key (n + 1).toNat 0 126 1019999 (by omega) (by omega) (fun _ => rfl) (by omega))
  funext q j
  unfold zp_fb
  rw [if_neg (by omega)]
/-! stops -/
noncomputable def zp_fs (I : zI) (a n : Int) (s : Int → Int) (k : Int) : zI := fun q j => if q = a + 5 ∧ 0 ≤ j ∧ j < k then zq (zl_isstop n s (I (a + 4)) j) else I q j
theorem zp_fs_at {q j : Int} : zp_fs I a n s k q j = if q = a + 5 ∧ 0 ≤ j ∧ j < k then zq (zl_isstop n s (I (a + 4)) j) else I q j := rfl
theorem zp_fs_step (hk : 0 ≤ k) (hy : y = zq (zl_isstop n s (I (a + 4)) k)) : zi_up (zp_fs I a n s k) (a + 5) k y = zp_fs I a n s (k + 1) := by
  funext q j
  rw [zi_up_at, zp_fs_at, zp_fs_at]
  by_cases g : q = a + 5 ∧ j = k
  · obtain ⟨rfl, rfl⟩ := g
    rw [if_pos ⟨rfl, rfl⟩, if_pos ⟨rfl, by omega, by omega⟩, hy]
  · rw [if_neg g]
    by_cases g2 : q = a + 5 ∧ 0 ≤ j ∧ j < k
    · rw [if_pos g2, if_pos (by omega)]
    · rw [if_neg g2, if_neg (by omega)]
theorem zx_findStops (h : zs_ll S R a) (g : zs_li S R b) (hab : a + 9 ≤ b ∨ b + 3 ≤ a) (hl : 0 ≤ l ∧ l < 12) (hn : I a 0 = n) (hn2 : 0 ≤ n ∧ n ≤ 40) (hsg : ∀ i, 0 ≤ i → i < n → I (b + 2) (l * 40 + i) = s i) : zG (d + 3) 52 [.inr (.inr a), .inr (.inr b), .inl l] (S, I, R, T) = some (0, (S, zp_fs I a n s (n + 1), R, T)) := by
  obtain ⟨h0, h1, ⟨r3, r4, r5, r6, r7, r8, r9, r10⟩, s1, s2, s3, s4, s5, s6, s7, s8⟩ := id h
  have g1 := g.2.1
  rw [zm_52]
  have key : ∀ (u : Nat) (k : Int) (w : Nat), (u : Int) + k = n + 1 → 0 ≤ k → 3 * u + 1 ≤ w → zi_run zt_52 (zG (d + 2)) w 2 [some (.inr (.inr a)), some (.inr (.inr b)), some (.inl l), some (.inl k), none, none] [] (S, zp_fs I a n s k, R, T) = some (0, (S, zp_fs I a n s (n + 1), R, T)) := by
    intro u
    induction u with
    | zero =>
      intro k w k1 k2 k4
      obtain ⟨w, rfl⟩ : ∃ w', w = w' + 1 := ⟨w - 1, by omega⟩
      obtain rfl : k = n + 1 := by omega
      rw [zk_52_2]
      have hz : zp_fs I a n s (n + 1) a 0 = n := by unfold zp_fs; rw [if_neg (by omega), hn]
      simp (disch := first | assumption | omega | trivial) only [if_pos, if_neg, if_true, if_false, true_and, and_true, not_true_eq_false, not_false_eq_true, false_and, and_false, Option.bind_some, zq_t, zq_f, zq0, zq1, zw_id, h1, hz]
    | succ u ih =>
      intro k w k1 k2 k4
      obtain ⟨w, rfl⟩ : ∃ w', w = w' + 1 + 1 + 1 := ⟨w - 3, by omega⟩
      have kn : k ≤ n := by omega
      have hz : zp_fs I a n s k a 0 = n := by unfold zp_fs; rw [if_neg (by omega), hn]
      have hh : zp_fs I a n s k (a + 4) k = I (a + 4) k := by unfold zp_fs; rw [if_neg (by omega)]
      have step : ∀ o p y, (o = 0 ∨ o = 1) → (p = 0 ∨ p = 1) → y = zq (zl_isstop n s (I (a + 4)) k) → (o = 1 → y = 1) → (o = 0 → y = p) → zi_run zt_52 (zG (d + 2)) (w + 1) 56 [some (.inr (.inr a)), some (.inr (.inr b)), some (.inl l), some (.inl k), some (.inl o), none] [.inl p] (S, zp_fs I a n s k, R, T) = some (0, (S, zp_fs I a n s (n + 1), R, T)) := by
        intro o p y ho hp hy y1 y2
        have hm := zp_fs_step (I := I) (a := a) k2 hy
        rw [zk_52_56]
        rcases ho with q | q
        · have hyp := y2 q
          subst q
          rcases hp with q | q <;> subst q <;> subst hyp <;> simp (disch := first | assumption | omega | trivial) only [if_pos, if_neg, if_true, if_false, true_and, and_true, not_true_eq_false, not_false_eq_true, false_and, and_false, Option.bind_some, zq_t, zq_f, zq0, zq1, zw_id, h1, r7, zx_put (show 0 < a + 5 by omega) s5, zk_pt_in] <;> exact zr_mem hm (ih (k + 1) w (by omega) (by omega) (by omega))
        · have hyp := y1 q
          subst q
          subst hyp
          rcases hp with q | q <;> subst q <;> simp (disch := first | assumption | omega | trivial) only [if_pos, if_neg, if_true, if_false, true_and, and_true, not_true_eq_false, not_false_eq_true, false_and, and_false, Option.bind_some, zq_t, zq_f, zq0, zq1, zw_id, h1, r7, zx_put (show 0 < a + 5 by omega) s5, zk_pt_in] <;> exact zr_mem hm (ih (k + 1) w (by omega) (by omega) (by omega))
      have mid : ∀ o, (o = 0 ∨ o = 1) → (o = 1 → k = 0 ∨ k = n) → (o = 0 → 0 < k ∧ k < n) → zi_run zt_52 (zG (d + 2)) (w + 1 + 1) 27 [some (.inr (.inr a)), some (.inr (.inr b)), some (.inl l), some (.inl k), none, none] [.inl o] (S, zp_fs I a n s k, R, T) = some (0, (S, zp_fs I a n s (n + 1), R, T)) := by
        intro o ho o1 o0
        rw [zk_52_27]
        have y1 : o = 1 → zq (zl_isstop n s (I (a + 4)) k) = 1 := fun q => zq_t (by
          unfold zl_isstop
          rcases o1 q with q | q
          · exact Or.inl q
          · exact Or.inr (Or.inl q))
        by_cases q1 : zk_pk (zp_fs I a n s k) (b + 2) 480 (l * 40 + k) = 126
        · simp (disch := first | assumption | omega | trivial) only [if_pos, if_neg, if_true, if_false, true_and, and_true, not_true_eq_false, not_false_eq_true, false_and, and_false, Option.bind_some, zq_t, zq_f, zq0, zq1, zw_id, g1, zx_signOf g]
          refine step o 0 _ ho (Or.inl rfl) rfl y1 (fun q => zq_f ?_)
          obtain ⟨q2, q3⟩ := o0 q
          rw [zk_pk_in (by omega)] at q1
          have es : zp_fs I a n s k (b + 2) (l * 40 + k) = s k := by unfold zp_fs; rw [if_neg (by omega)]; exact hsg k k2 q3
          rw [es] at q1
          unfold zl_isstop
          rintro (z | z | z)
          · omega
          · omega
          · exact z.1 q1
        · by_cases q4 : I (a + 4) k = 0
          · simp (disch := first | assumption | omega | trivial) only [if_pos, if_neg, if_true, if_false, true_and, and_true, not_true_eq_false, not_false_eq_true, false_and, and_false, Option.bind_some, zq_t, zq_f, zq0, zq1, zw_id, h1, g1, r6, zx_signOf g, zx_pick (show 0 < a + 4 by omega) s4, zk_pk_in, hh]
            refine step o 1 _ ho (Or.inr rfl) rfl y1 (fun q => zq_t ?_)
            obtain ⟨q2, q3⟩ := o0 q
            rw [zk_pk_in (by omega)] at q1
            have es : zp_fs I a n s k (b + 2) (l * 40 + k) = s k := by unfold zp_fs; rw [if_neg (by omega)]; exact hsg k k2 q3
            rw [es] at q1
            exact Or.inr (Or.inr ⟨q1, q4⟩)
          · simp (disch := first | assumption | omega | trivial) only [if_pos, if_neg, if_true, if_false, true_and, and_true, not_true_eq_false, not_false_eq_true, false_and, and_false, Option.bind_some, zq_t, zq_f, zq0, zq1, zw_id, h1, g1, r6, zx_signOf g, zx_pick (show 0 < a + 4 by omega) s4, zk_pk_in, hh]
            refine step o 0 _ ho (Or.inl rfl) rfl y1 (fun q => zq_f ?_)
            obtain ⟨q2, q3⟩ := o0 q
            unfold zl_isstop
            rintro (z | z | z)
            · omega
            · omega
            · exact q4 z.2
      rw [zk_52_2]
      by_cases hk0 : k = 0
      · simp (disch := first | assumption | omega | trivial) only [if_pos, if_neg, if_true, if_false, true_and, and_true, not_true_eq_false, not_false_eq_true, false_and, and_false, Option.bind_some, zq_t, zq_f, zq0, zq1, zw_id, h1, hz]
        exact mid 1 (Or.inr rfl) (fun _ => Or.inl hk0) (fun q => absurd q (by omega))
      · by_cases hk : k = n
        · simp (disch := first | assumption | omega | trivial) only [if_pos, if_neg, if_true, if_false, true_and, and_true, not_true_eq_false, not_false_eq_true, false_and, and_false, Option.bind_some, zq_t, zq_f, zq0, zq1, zw_id, h1, hz]
          exact mid 1 (Or.inr rfl) (fun _ => Or.inr hk) (fun q => absurd q (by omega))
        · simp (disch := first | assumption | omega | trivial) only [if_pos, if_neg, if_true, if_false, true_and, and_true, not_true_eq_false, not_false_eq_true, false_and, and_false, Option.bind_some, zq_t, zq_f, zq0, zq1, zw_id, h1, hz]
          exact mid 0 (Or.inl rfl) (fun q => absurd q (by omega)) (fun q => by omega)
  refine zr_mem ?_ (key (n + 1).toNat 0 1019999 (by omega) (by omega) (by omega))
  funext q j
  unfold zp_fs
  rw [if_neg (by omega)]
theorem zx_rowEnd (h : zs_ll S R a) (hb : 0 ≤ x ∧ x ≤ y ∧ y ≤ 40) : ∃ e, zG (d + 3) 54 [.inr (.inr a), .inl x, .inl y] (S, I, R, T) = some (e, (S, I, R, T)) ∧ ((x < e ∧ e ≤ y ∧ I (a + 6) e = 1 ∧ ∀ k, e < k → k ≤ y → ¬ I (a + 6) k = 1) ∨ (e = y ∧ ∀ k, x < k → k ≤ y → ¬ I (a + 6) k = 1)) := by
  obtain ⟨h0, h1, ⟨-, -, -, -, -, r8, -, -⟩, -, -, -, -, -, s6, -, -⟩ := id h
  rw [zm_54]
  have key : ∀ (w : Nat) (k : Int), x ≤ k → k ≤ y → (∀ j, k < j → j ≤ y → ¬ I (a + 6) j = 1) → (k - x).toNat < w → ∃ e, zi_run zt_54 (zG (d + 2)) w 2 [some (.inr (.inr a)), some (.inl x), some (.inl y), some (.inl k)] [] (S, I, R, T) = some (e, (S, I, R, T)) ∧ ((x < e ∧ e ≤ y ∧ I (a + 6) e = 1 ∧ ∀ k, e < k → k ≤ y → ¬ I (a + 6) k = 1) ∨ (e = y ∧ ∀ k, x < k → k ≤ y → ¬ I (a + 6) k = 1)) := by
    intro w
    induction w with
    | zero => intro k _ _ _ q; omega
    | succ w ih =>
      intro k k1 k2 hp k3
      rw [zk_54_2]
      by_cases hk : x < k
      · by_cases g2 : I (a + 6) k = 1
        · simp (disch := first | assumption | omega | trivial) only [if_pos, if_neg, if_true, if_false, true_and, and_true, not_true_eq_false, not_false_eq_true, false_and, and_false, Option.bind_some, zq_t, zq_f, zq0, zq1, zw_id, h1, r8, zx_pick (show 0 < a + 6 by omega) s6, zk_pk_in]
          exact ⟨_, rfl, Or.inl ⟨hk, k2, g2, hp⟩⟩
        · simp (disch := first | assumption | omega | trivial) only [if_pos, if_neg, if_true, if_false, true_and, and_true, not_true_eq_false, not_false_eq_true, false_and, and_false, Option.bind_some, zq_t, zq_f, zq0, zq1, zw_id, h1, r8, zx_pick (show 0 < a + 6 by omega) s6, zk_pk_in]
          exact ih (k + -1) (by omega) (by omega) (fun j j1 j2 => by
            by_cases hj : j = k
            · rw [hj]; exact g2
            · exact hp j (by omega) j2) (by omega)
      · simp (disch := first | assumption | omega | trivial) only [if_pos, if_neg, if_true, if_false, true_and, and_true, not_true_eq_false, not_false_eq_true, false_and, and_false, Option.bind_some, zq_t, zq_f, zq0, zq1, zw_id]
        exact ⟨_, rfl, Or.inr ⟨rfl, fun j j1 j2 => hp j (by omega) j2⟩⟩
  exact key 1019999 y (by omega) (by omega) (fun j j1 j2 => absurd j1 (by omega)) (by omega)
end ZLf
