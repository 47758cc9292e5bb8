/-! the class: a row is filled -/
def zU (_ : Int × zM → zR) : Type := Unit
/-- what follows a call, kept shut until the call has answered -/
def zbd (X : zR) (f : Int × zM → zR) (_ : zU f) : zR := X.bind f
def zu0 (f : Int × zM → zR) : zU f := ()
theorem zbd_conv {X : zR} {f : Int × zM → zR} : X.bind f = zbd X f (zu0 f) := rfl
theorem zbd_some {q : Int × zM} {f : Int × zM → zR} {u : zU f} : zbd (some q) f u = f q := rfl
theorem zl_ce_ir {w t m c i col : Int} (ht : 1 ≤ t ∧ t ≤ 8) (hc : 0 ≤ col) : 0 ≤ zl_ce w t m c i col ∧ zl_ce w t m c i col ≤ 8 := by
  have m1 := Int.emod_nonneg col (show t ≠ 0 by omega)
  have m2 := Int.emod_lt_of_pos col (show 0 < t by omega)
  unfold zl_ce
  split
  · omega
  · split
    · split <;> omega
    · split
      · split
        · omega
        · split
          · omega
          · split <;> omega
      · omega
theorem zl_eff_ir {w t m c i col : Int} (ht : 1 ≤ t ∧ t ≤ 8) (hc : 0 ≤ col) : 0 ≤ zl_eff w t m c i col ∧ zl_eff w t m c i col ≤ 8 := by
  have := zl_ce_ir (w := w) (m := m) (c := c) (i := i) ht hc
  unfold zl_eff
  split <;> omega
theorem zl_at_ir {w t m b c0 : Int} {s : Int → Int} (ht : 1 ≤ t ∧ t ≤ 8) (h0 : 0 ≤ c0) : ∀ i, b ≤ i → 0 ≤ zl_at w t m s b c0 i ∧ zl_at w t m s b c0 i ≤ c0 + 8 * (i - b) := by
  have key : ∀ k : Nat, 0 ≤ zl_at w t m s b c0 (b + k) ∧ zl_at w t m s b c0 (b + k) ≤ c0 + 8 * k := by
    intro k
    induction k with
    | zero =>
      rw [show b + ((0 : Nat) : Int) = b by simp, zl_at_self]
      omega
    | succ k ih =>
      rw [show b + ((k + 1 : Nat) : Int) = b + k + 1 by omega, zl_at_succ (by omega)]
      have := zl_eff_ir (w := w) (t := t) (m := m) (c := s (b + k)) (i := b + k) (col := zl_at w t m s b c0 (b + k)) ht ih.1
      omega
  intro i hi
  have := key (i - b).toNat
  rw [show b + (((i - b).toNat : Nat) : Int) = i by omega] at this
  omega
theorem zl_first_ok {w t m c i c0 : Int} (hw : 4 ≤ w) (ht : 1 ≤ t) (hc : 0 ≤ c0 ∧ c0 ≤ w / 2) : zl_ok1 w t m c i c0 := by
  unfold zl_ok1
  by_cases h9 : c = 9
  · exact Or.inr (Or.inr h9)
  · refine Or.inl (Or.inr (Or.inr ⟨h9, ?_⟩))
    unfold zl_ce
    split
    · omega
    · split
      · split <;> omega
      · omega
/-- what is laid from b on and ahead of i -/
def zp_ly (I : zI) (a r b i : Int) (C E H : Int → Int) : zI := fun q j => if b ≤ j ∧ j < i then (if q = a + 1 then r else if q = a + 2 then C j else if q = a + 3 then E j else if q = a + 4 then H j else I q j) else I q j
theorem zp_ly_at {I : zI} {a r b i q j : Int} {C E H : Int → Int} : zp_ly I a r b i C E H q j = if b ≤ j ∧ j < i then (if q = a + 1 then r else if q = a + 2 then C j else if q = a + 3 then E j else if q = a + 4 then H j else I q j) else I q j := rfl
theorem zp_ly_off {I : zI} {a r b i q : Int} {C E H : Int → Int} (h : q < a + 1 ∨ a + 4 < q) : zp_ly I a r b i C E H q = I q := by
  funext j
  rw [zp_ly_at, if_neg (show ¬ q = a + 1 by omega), if_neg (show ¬ q = a + 2 by omega), if_neg (show ¬ q = a + 3 by omega), if_neg (show ¬ q = a + 4 by omega)]
  split <;> rfl
theorem zp_ly_nil {I : zI} {a r b : Int} {C E H : Int → Int} : zp_ly I a r b b C E H = I := by
  funext q j
  rw [zp_ly_at, if_neg (by omega)]
theorem zp_ly_step {I : zI} {a r b k e h : Int} {C E H : Int → Int} (hk : b ≤ k) (he : e = E k) (hh : h = H k) : zi_up (zi_up (zi_up (zi_up (zp_ly I a r b k C E H) (a + 1) k r) (a + 2) k (C k)) (a + 3) k e) (a + 4) k h = zp_ly I a r b (k + 1) C E H := by
  subst he hh
  funext q j
  rw [zi_up_at, zi_up_at, zi_up_at, zi_up_at, zp_ly_at, zp_ly_at]
  by_cases hj : j = k
  · subst hj
    rw [if_pos (show b ≤ j ∧ j < j + 1 by omega)]
    by_cases q1 : q = a + 1
    · rw [if_neg (by omega), if_neg (by omega), if_neg (by omega), if_pos ⟨q1, rfl⟩, if_pos q1]
    · by_cases q2 : q = a + 2
      · rw [if_neg (by omega), if_neg (by omega), if_pos ⟨q2, rfl⟩, if_neg q1, if_pos q2]
      · by_cases q3 : q = a + 3
        · rw [if_neg (by omega), if_pos ⟨q3, rfl⟩, if_neg q1, if_neg q2, if_pos q3]
        · by_cases q4 : q = a + 4
          · rw [if_pos ⟨q4, rfl⟩, if_neg q1, if_neg q2, if_neg q3, if_pos q4]
          · rw [if_neg (by omega), if_neg (by omega), if_neg (by omega), if_neg (by omega), if_neg (by omega), if_neg q1, if_neg q2, if_neg q3, if_neg q4]
  · rw [if_neg (by omega), if_neg (by omega), if_neg (by omega), if_neg (by omega)]
    by_cases hj2 : b ≤ j ∧ j < k
    · rw [if_pos hj2, if_pos (show b ≤ j ∧ j < k + 1 by omega)]
    · rw [if_neg hj2, if_neg (show ¬ (b ≤ j ∧ j < k + 1) by omega)]
section ZLg
variable {d : Nat} {S : zS} {I J R : zI} {T : Int × Nat} {a b n v l c m k x y r w t p : Int} {s : Int → Int}
/-- how a row that begins at b ends: at e; the sign at j is too far -/
def zl_fin (n w t m : Int) (s : Int → Int) (b c0 e j : Int) : Prop := (b ≤ e ∧ e ≤ j ∧ j ≤ n) ∧ (∀ i, b ≤ i → i < j → zl_ok1 w t m (s i) i (zl_at w t m s b c0 i)) ∧ ((e = n ∧ j = n) ∨ (zl_stop n w t m s b c0 j ∧ zl_end n m s b j e))
theorem zx_fillRow (h : zs_ll S R a) (g : zs_li S R p) (hs : zs_se S c) (hr : zr_se I c) (hap : a + 9 ≤ p ∨ p + 3 ≤ a) (hac : c < a ∨ a + 9 ≤ c) (hl : 0 ≤ l ∧ l < 12) (hn : I a 0 = n) (hn2 : 0 ≤ n ∧ n ≤ 40) (hsg : ∀ i, 0 ≤ i → i < n → I (p + 2) (l * 40 + i) = s i) (hr2 : 0 ≤ r ∧ r ≤ 40) (hB : I (a + 7) r = b) (hb : 0 ≤ b ∧ b ≤ n) (hind : 0 ≤ I a 2 ∧ I a 2 ≤ 20) (hbr : ∀ i, 0 ≤ i → i ≤ n → I (a + 6) i = zq (zl_brk n s i)) (hw : I c 0 = w) (ht : I c 1 = t) (hm : I c 2 = m) {C E H : Int → Int} (hC : ∀ i, C i = zl_at w t m s b (zl_c0 (I a 2) r) i) (hE : ∀ i, E i = zl_eff w t m (s i) i (C i)) (hH : ∀ i, H i = if zl_fitb w t m (s i) i (C i) then 0 else 1) : ∃ e j, zG (d + 4) 53 [.inr (.inr a), .inr (.inr p), .inl l, .inl r, .inr (.inr c)] (S, I, R, T) = some (e, (S, zi_up (zp_ly I a r b j C E H) (a + 8) r (C e), R, T)) ∧ zl_fin n w t m s b (zl_c0 (I a 2) r) e j := by
  obtain ⟨h0, h1, ⟨r3, r4, r5, r6, r7, r8, r9, r10⟩, s1, s2, s3, s4, s5, s6, s7, s8⟩ := id h
  have g1 := g.2.1
  have hs1 := hs.2
  have htt : 1 ≤ t ∧ t ≤ 8 := by rw [← ht]; exact hr.2.1
  have hc0 : 0 ≤ zl_c0 (I a 2) r ∧ zl_c0 (I a 2) r ≤ 20 := by unfold zl_c0; split <;> omega
  rw [zm_53]
  simp (disch := first | assumption | omega | trivial) only [if_pos, if_neg, if_true, if_false, true_and, and_true, not_true_eq_false, not_false_eq_true, false_and, and_false, Option.bind_some, zq_t, zq_f, zq0, zq1, zw_id, h1, zx_firstPlace h, zx_firstColumn h, zk_pk_in, hB]
  have key : ∀ (u : Nat) (k : Int) (w' : Nat), (u : Int) + k = n → b ≤ k → (∀ i, b ≤ i → i < k → zl_ok1 w t m (s i) i (zl_at w t m s b (zl_c0 (I a 2) r) i)) → 2 * u + 1 ≤ w' → ∃ e j, zi_run zt_53 (zG (d + 3)) w' 18 [some (.inr (.inr a)), some (.inr (.inr p)), some (.inl l), some (.inl r), some (.inr (.inr c)), some (.inl b), some (.inl (C k)), some (.inl k), none, none, none, none] [] (S, zp_ly I a r b k C E H, R, T) = some (e, (S, zi_up (zp_ly I a r b j C E H) (a + 8) r (C e), R, T)) ∧ zl_fin n w t m s b (zl_c0 (I a 2) r) e j := by
    intro u
    induction u with
    | zero =>
      intro k w' k1 k2 kp k4
      obtain ⟨w', rfl⟩ : ∃ w'', w' = w'' + 1 := ⟨w' - 1, by omega⟩
      obtain rfl : k = n := by omega
      rw [zk_53_18]
      have hz : zp_ly I a r b k C E H a 0 = k := by rw [zp_ly_off (by omega), hn]
      have hz2 : zi_up (zp_ly I a r b k C E H) (a + 8) r (C k) a 0 = k := by rw [zu_ne (by omega), hz]
      simp (disch := first | assumption | omega | trivial) only [if_pos, if_neg, if_true, if_false, true_and, and_true, not_true_eq_false, not_false_eq_true, false_and, and_false, Option.bind_some, zq_t, zq_f, zq0, zq1, zw_id, h1, hz, r10, zx_put (show 0 < a + 8 by omega) s8, zk_pt_in, hz2]
      exact ⟨k, k, rfl, by omega, kp, Or.inl ⟨rfl, rfl⟩⟩
    | succ u ih =>
      intro k w' k1 k2 kp k4
      obtain ⟨w', rfl⟩ : ∃ w'', w' = w'' + 1 + 1 := ⟨w' - 2, by omega⟩
      have kn : k < n := by omega
      have hCk : 0 ≤ C k ∧ C k ≤ 340 := by
        have := zl_at_ir (w := w) (t := t) (m := m) (s := s) (b := b) htt hc0.1 k k2
        rw [hC]
        omega
      obtain ⟨M, hM⟩ : ∃ M, M = zp_ly I a r b k C E H := ⟨_, rfl⟩
      have mz : M a 0 = n := by rw [hM, zp_ly_off (by omega), hn]
      have mc : M c = I c := by rw [hM, zp_ly_off (by omega)]
      have mc0 : M c 0 = w := by rw [mc, hw]
      have mc1 : M c 1 = t := by rw [mc, ht]
      have mc2 : M c 2 = m := by rw [mc, hm]
      have ms : M (p + 2) (l * 40 + k) = s k := by rw [hM, zp_ly_off (by omega)]; exact hsg k (by omega) kn
      have mr : zr_se M c := zr_se_congr hr mc
      have mb : M (a + 6) = I (a + 6) := by rw [hM, zp_ly_off (by omega)]
      have hce := zl_ce_ir (w := w) (m := m) (c := s k) (i := k) htt hCk.1
      have e1 : ∀ d, zG (d + 2) 88 [.inr (.inr c), .inl (s k), .inl k, .inl (C k)] (S, M, R, T) = some (zl_ce w t m (s k) k (C k), (S, M, R, T)) := fun d => by
        rw [zx_cellsOf hs mr (by omega), mc0, mc1, mc2]
      have e2 : ∀ d, zG (d + 1) 89 [.inr (.inr c), .inl (s k), .inl (C k), .inl (zl_ce w t m (s k) k (C k))] (S, M, R, T) = some (zq (zl_fit w t m (s k) k (C k)), (S, M, R, T)) := fun d => by
        rw [zx_fits hs mr (by omega) (by omega), mc0, mc2]; rfl
      have step : ∀ y o, y = E k → (o = 0 ∨ o = 1) → (o = 0 → H k = 1) → (o = 1 → H k = 0) → zl_ok1 w t m (s k) k (C k) → 0 ≤ y → y ≤ 8 → ∃ e j, zi_run zt_53 (zG (d + 3)) (w' + 1) 139 [some (.inr (.inr a)), some (.inr (.inr p)), some (.inl l), some (.inl r), some (.inr (.inr c)), some (.inl b), some (.inl (C k)), some (.inl k), none, none, some (.inl o), none] [.inl y] (S, M, R, T) = some (e, (S, zi_up (zp_ly I a r b j C E H) (a + 8) r (C e), R, T)) ∧ zl_fin n w t m s b (zl_c0 (I a 2) r) e j := by
        intro y o hy ho o0 o1 hok hy0 hy8
        have hCS : C (k + 1) = C k + y := by rw [hC (k + 1), zl_at_succ k2, hy, hE, ← hC]
        obtain ⟨e, j, q1, q2⟩ := ih (k + 1) w' (by omega) (by omega) (fun i i1 i2 => by
          by_cases hi : i = k
          · rw [hi, ← hC]; exact hok
          · exact kp i i1 (by omega)) (by omega)
        rw [hCS] at q1
        refine ⟨e, j, ?_, q2⟩
        rw [zk_53_139]
        rcases ho with q | q
        · have hh := o0 q
          subst q
          simp (disch := first | assumption | omega | trivial) only [if_pos, if_neg, if_true, if_false, true_and, and_true, not_true_eq_false, not_false_eq_true, false_and, and_false, Option.bind_some, zq_t, zq_f, zq0, zq1, zw_id, h1, r3, r4, r5, r6, zx_put (show 0 < a + 1 by omega) s1, zx_put (show 0 < a + 2 by omega) s2, zx_put (show 0 < a + 3 by omega) s3, zx_put (show 0 < a + 4 by omega) s4, zk_pt_in]
          exact zr_mem (by rw [hM]; exact zp_ly_step k2 hy hh.symm) q1
        · have hh := o1 q
          subst q
          simp (disch := first | assumption | omega | trivial) only [if_pos, if_neg, if_true, if_false, true_and, and_true, not_true_eq_false, not_false_eq_true, false_and, and_false, Option.bind_some, zq_t, zq_f, zq0, zq1, zw_id, h1, r3, r4, r5, r6, zx_put (show 0 < a + 1 by omega) s1, zx_put (show 0 < a + 2 by omega) s2, zx_put (show 0 < a + 3 by omega) s3, zx_put (show 0 < a + 4 by omega) s4, zk_pt_in]
          exact zr_mem (by rw [hM]; exact zp_ly_step k2 hy hh.symm) q1
      rw [← hM, zk_53_18]
      by_cases q1 : zl_fit w t m (s k) k (C k)
      · ((try simp only [zbd_conv]); simp (disch := first | assumption | omega | trivial) only [↓reduceIte, zbd_some, eq_self, Int.reduceEq, Int.reduceLT, Int.reduceLE, and_self, or_true, true_or, or_false, false_or, if_pos, if_neg, if_true, if_false, true_and, and_true, not_true_eq_false, not_false_eq_true, false_and, and_false, Option.bind_some, zq_t, zq_f, zq0, zq1, zw_id, h1, g1, hs1, mz, if_pos kn, zx_signOf g, zk_pk_in, ms, e1, e2, q1])
        have hb1 : zl_fitb w t m (s k) k (C k) = true := zl_fitb_iff.mpr q1
        exact step _ 1 (by rw [hE]; unfold zl_eff; rw [hb1]; rfl) (Or.inr rfl) (fun q => absurd q (by omega)) (fun _ => by rw [hH, hb1]; rfl) (Or.inl q1) hce.1 hce.2
      · have hb1 : zl_fitb w t m (s k) k (C k) = false := by
          cases hq : zl_fitb w t m (s k) k (C k) with
          | true => exact absurd (zl_fitb_iff.mp hq) q1
          | false => rfl
        by_cases q2 : zf_gap (s k)
        · ((try simp only [zbd_conv]); simp (disch := first | assumption | omega | trivial) only [↓reduceIte, zbd_some, eq_self, Int.reduceEq, Int.reduceLT, Int.reduceLE, and_self, or_true, true_or, or_false, false_or, if_pos, if_neg, if_true, if_false, true_and, and_true, not_true_eq_false, not_false_eq_true, false_and, and_false, Option.bind_some, zq_t, zq_f, zq0, zq1, zw_id, h1, g1, hs1, mz, if_pos kn, zx_signOf g, zk_pk_in, ms, e1, e2, q1, q2, zx_isGap])
          exact step 0 0 (by rw [hE]; unfold zl_eff; rw [hb1]; rfl) (Or.inl rfl) (fun _ => by rw [hH, hb1]; rfl) (fun q => absurd q (by omega)) (Or.inr q2) (by omega) (by omega)
        · have hno : ¬ zl_ok1 w t m (s k) k (C k) := fun z => z.elim q1 q2
          have hstop : zl_stop n w t m s b (zl_c0 (I a 2) r) k := ⟨k2, kn, kp, by rw [← hC]; exact hno⟩
          by_cases q3 : m = 2
          · obtain ⟨e, q4, q5⟩ := zx_rowEnd (d := d) (I := M) (T := T) (x := b) (y := k) h (by omega)
            rw [mb] at q5
            have q6 : ∀ j, 0 ≤ j → j ≤ n → (I (a + 6) j = 1 ↔ zl_brk n s j) := fun j j1 j2 => by rw [hbr j j1 j2, zq1]
            have hend : (b ≤ e ∧ e ≤ k) ∧ zl_end n m s b k e := by
              rcases q5 with ⟨z1, z2, z3, z4⟩ | ⟨z1, z2⟩
              · exact ⟨by omega, Or.inr ⟨q3, Or.inl ⟨z1, z2, (q6 e (by omega) (by omega)).mp z3, fun j j1 j2 q => z4 j j1 j2 ((q6 j (by omega) (by omega)).mpr q)⟩⟩⟩
              · exact ⟨by omega, Or.inr ⟨q3, Or.inr ⟨z1, fun j j1 j2 q => z2 j j1 j2 ((q6 j (by omega) (by omega)).mpr q)⟩⟩⟩
            by_cases q7 : e < k
            · have mC : M (a + 2) e = C e := by rw [hM, zp_ly_at, if_pos (by omega), if_neg (by omega), if_pos rfl]
              ((try simp only [zbd_conv]); simp (disch := first | assumption | omega | trivial) only [↓reduceIte, zbd_some, eq_self, Int.reduceEq, Int.reduceLT, Int.reduceLE, and_self, or_true, true_or, or_false, false_or, if_pos, if_neg, if_true, if_false, true_and, and_true, not_true_eq_false, not_false_eq_true, false_and, and_false, Option.bind_some, zq_t, zq_f, zq0, zq1, zw_id, h1, g1, hs1, mz, if_pos kn, zx_signOf g, zk_pk_in, ms, e1, e2, q1, q2, zx_isGap, mc2, if_pos q3, q4, if_pos q7, zx_columnOf h, mC, r10, zx_put (show 0 < a + 8 by omega) s8, zk_pt_in])
              exact ⟨e, k, by rw [hM], by omega, kp, Or.inr ⟨hstop, hend.2⟩⟩
            · obtain rfl : e = k := by omega
              ((try simp only [zbd_conv]); simp (disch := first | assumption | omega | trivial) only [↓reduceIte, zbd_some, eq_self, Int.reduceEq, Int.reduceLT, Int.reduceLE, and_self, or_true, true_or, or_false, false_or, if_pos, if_neg, if_true, if_false, true_and, and_true, not_true_eq_false, not_false_eq_true, false_and, and_false, Option.bind_some, zq_t, zq_f, zq0, zq1, zw_id, h1, g1, hs1, mz, if_pos kn, zx_signOf g, zk_pk_in, ms, e1, e2, q1, q2, zx_isGap, mc2, if_pos q3, q4, if_neg (show ¬ e < e by omega), r10, zx_put (show 0 < a + 8 by omega) s8, zk_pt_in])
              exact ⟨e, e, by rw [hM], by omega, kp, Or.inr ⟨hstop, hend.2⟩⟩
          · ((try simp only [zbd_conv]); simp (disch := first | assumption | omega | trivial) only [↓reduceIte, zbd_some, eq_self, Int.reduceEq, Int.reduceLT, Int.reduceLE, and_self, or_true, true_or, or_false, false_or, if_pos, if_neg, if_true, if_false, true_and, and_true, not_true_eq_false, not_false_eq_true, false_and, and_false, Option.bind_some, zq_t, zq_f, zq0, zq1, zw_id, h1, g1, hs1, mz, if_pos kn, zx_signOf g, zk_pk_in, ms, e1, e2, q1, q2, zx_isGap, mc2, if_neg q3, if_neg (show ¬ k < k by omega), r10, zx_put (show 0 < a + 8 by omega) s8, zk_pt_in])
            exact ⟨k, k, by rw [hM], by omega, kp, Or.inr ⟨hstop, Or.inl ⟨q3, rfl⟩⟩⟩
  have := key (n - b).toNat b 1019999 (by omega) (by omega) (fun i i1 i2 => absurd i1 (by omega)) (by omega)
  rw [zp_ly_nil, hC b, zl_at_self] at this
  exact this
end ZLg
