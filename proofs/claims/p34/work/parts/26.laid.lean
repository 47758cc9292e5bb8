/-! the class: a line that is laid, read -/
def zs_ll (S : zS) (R : zI) (a : Int) : Prop := 0 < a ∧ (S a).1 = 4 ∧ (R a 3 = a + 1 ∧ R a 4 = a + 2 ∧ R a 5 = a + 3 ∧ R a 6 = a + 4 ∧ R a 7 = a + 5 ∧ R a 8 = a + 6 ∧ R a 9 = a + 7 ∧ R a 10 = a + 8) ∧ S (a + 1) = (12, 41) ∧ S (a + 2) = (12, 41) ∧ S (a + 3) = (12, 41) ∧ S (a + 4) = (12, 41) ∧ S (a + 5) = (12, 41) ∧ S (a + 6) = (12, 41) ∧ S (a + 7) = (12, 42) ∧ S (a + 8) = (12, 41)
/-- the first from b on, ahead of e; -1 -/
def zl_fst (b e : Int) (p : Int → Prop) (v : Int) : Prop := (b ≤ v ∧ v < e ∧ p v ∧ ∀ k, b ≤ k → k < v → ¬ p k) ∨ (v = -1 ∧ ∀ k, b ≤ k → k < e → ¬ p k)
/-- the last behind b, ahead of e; b -/
def zl_lst (b e : Int) (p : Int → Prop) (v : Int) : Prop := (b < v ∧ v < e ∧ p v ∧ ∀ k, v < k → k < e → ¬ p k) ∨ (v = b ∧ ∀ k, b < k → k < e → ¬ p k)
/-- the first from b on; n -/
def zl_nx (b n : Int) (p : Int → Prop) (v : Int) : Prop := b ≤ v ∧ v ≤ n ∧ (v = n ∨ p v) ∧ ∀ k, b ≤ k → k < v → ¬ p k
/-- the last ahead of b; -1 -/
def zl_pv (b : Int) (p : Int → Prop) (v : Int) : Prop := ((0 ≤ v ∧ v < b ∧ p v) ∨ v = -1) ∧ ∀ k, v < k → k < b → ¬ p k
theorem zl_fst_uniq {b e v v' : Int} {p p' : Int → Prop} (hb : 0 ≤ b) (h : zl_fst b e p v) (h' : zl_fst b e p' v') (hp : ∀ k, b ≤ k → k < e → (p k ↔ p' k)) : v = v' := by
  rcases h with ⟨h1, h2, h3, h4⟩ | ⟨h1, h2⟩ <;> rcases h' with ⟨g1, g2, g3, g4⟩ | ⟨g1, g2⟩
  · rcases Int.lt_trichotomy v v' with q | q | q
    · exact absurd ((hp v h1 h2).mp h3) (g4 v h1 q)
    · exact q
    · exact absurd ((hp v' g1 g2).mpr g3) (h4 v' g1 q)
  · exact absurd ((hp v h1 h2).mp h3) (g2 v h1 h2)
  · exact absurd ((hp v' g1 g2).mpr g3) (h2 v' g1 g2)
  · omega
theorem zl_lst_uniq {b e v v' : Int} {p p' : Int → Prop} (h : zl_lst b e p v) (h' : zl_lst b e p' v') (hp : ∀ k, b < k → k < e → (p k ↔ p' k)) : v = v' := by
  rcases h with ⟨h1, h2, h3, h4⟩ | ⟨h1, h2⟩ <;> rcases h' with ⟨g1, g2, g3, g4⟩ | ⟨g1, g2⟩
  · rcases Int.lt_trichotomy v v' with q | q | q
    · exact absurd ((hp v' g1 g2).mpr g3) (h4 v' q g2)
    · exact q
    · exact absurd ((hp v h1 h2).mp h3) (g4 v q h2)
  · exact absurd ((hp v h1 h2).mp h3) (g2 v h1 h2)
  · exact absurd ((hp v' g1 g2).mpr g3) (h2 v' g1 g2)
  · omega
theorem zl_nx_uniq {b n v v' : Int} {p p' : Int → Prop} (h : zl_nx b n p v) (h' : zl_nx b n p' v') (hp : ∀ k, b ≤ k → k < n → (p k ↔ p' k)) : v = v' := by
  obtain ⟨h1, h2, h3, h4⟩ := h
  obtain ⟨g1, g2, g3, g4⟩ := h'
  rcases Int.lt_trichotomy v v' with q | q | q
  · rcases h3 with h3 | h3
    · omega
    · exact absurd ((hp v h1 (by omega)).mp h3) (g4 v h1 q)
  · exact q
  · rcases g3 with g3 | g3
    · omega
    · exact absurd ((hp v' g1 (by omega)).mpr g3) (h4 v' g1 q)
theorem zl_pv_uniq {b v v' : Int} {p p' : Int → Prop} (h : zl_pv b p v) (h' : zl_pv b p' v') (hp : ∀ k, 0 ≤ k → k < b → (p k ↔ p' k)) : v = v' := by
  obtain ⟨h1, h2⟩ := h
  obtain ⟨g1, g2⟩ := h'
  rcases Int.lt_trichotomy v v' with q | q | q
  · rcases g1 with ⟨a1, a2, a3⟩ | g1
    · exact absurd ((hp v' a1 a2).mpr a3) (h2 v' q a2)
    · omega
  · exact q
  · rcases h1 with ⟨a1, a2, a3⟩ | h1
    · exact absurd ((hp v a1 a2).mp a3) (g2 v q a2)
    · omega
section ZLl
variable {d : Nat} {S : zS} {I J R : zI} {T : Int × Nat} {a b i n v l f c c' m k x y r s : Int}
theorem zx_isStop (h : zs_ll S R a) : zG (d + 2) 38 [.inr (.inr a), .inl i] (S, I, R, T) = some (zq (zk_pk I (a + 5) 41 i = 1), (S, I, R, T)) := by
  obtain ⟨h0, h1, ⟨r3, r4, r5, r6, r7, r8, r9, r10⟩, s1, s2, s3, s4, s5, s6, s7, s8⟩ := id h
  rw [zm_38]
  by_cases g : zk_pk I (a + 5) 41 i = 1 <;> simp (disch := first | assumption | omega | trivial) only [if_pos, if_neg, if_true, if_false, true_and, and_true, not_true_eq_false, not_false_eq_true, false_and, and_false, Option.bind_some, zq_t, zq_f, zq0, zq1, zw_id, h1, r7, zx_pick (show 0 < a + 5 by omega) s5]
theorem zx_isBreak (h : zs_ll S R a) : zG (d + 2) 39 [.inr (.inr a), .inl i] (S, I, R, T) = some (zq (zk_pk I (a + 6) 41 i = 1), (S, I, R, T)) := by
  obtain ⟨h0, h1, ⟨r3, r4, r5, r6, r7, r8, r9, r10⟩, s1, s2, s3, s4, s5, s6, s7, s8⟩ := id h
  rw [zm_39]
  by_cases g : zk_pk I (a + 6) 41 i = 1 <;> simp (disch := first | assumption | omega | trivial) only [if_pos, if_neg, if_true, if_false, true_and, and_true, not_true_eq_false, not_false_eq_true, false_and, and_false, Option.bind_some, zq_t, zq_f, zq0, zq1, zw_id, h1, r8, zx_pick (show 0 < a + 6 by omega) s6]
theorem zx_rowOf (h : zs_ll S R a) : zG (d + 2) 40 [.inr (.inr a), .inl i] (S, I, R, T) = some (zk_pk I (a + 1) 41 i, (S, I, R, T)) := by
  obtain ⟨h0, h1, ⟨r3, r4, r5, r6, r7, r8, r9, r10⟩, s1, s2, s3, s4, s5, s6, s7, s8⟩ := id h
  rw [zm_40]
  simp (disch := first | assumption | omega | trivial) only [if_pos, if_neg, if_true, if_false, true_and, and_true, not_true_eq_false, not_false_eq_true, false_and, and_false, Option.bind_some, zq_t, zq_f, zq0, zq1, zw_id, h1, r3, zx_pick (show 0 < a + 1 by omega) s1]
theorem zx_columnOf (h : zs_ll S R a) : zG (d + 2) 41 [.inr (.inr a), .inl i] (S, I, R, T) = some (zk_pk I (a + 2) 41 i, (S, I, R, T)) := by
  obtain ⟨h0, h1, ⟨r3, r4, r5, r6, r7, r8, r9, r10⟩, s1, s2, s3, s4, s5, s6, s7, s8⟩ := id h
  rw [zm_41]
  simp (disch := first | assumption | omega | trivial) only [if_pos, if_neg, if_true, if_false, true_and, and_true, not_true_eq_false, not_false_eq_true, false_and, and_false, Option.bind_some, zq_t, zq_f, zq0, zq1, zw_id, h1, r4, zx_pick (show 0 < a + 2 by omega) s2]
theorem zx_firstPlace (h : zs_ll S R a) : zG (d + 2) 42 [.inr (.inr a), .inl i] (S, I, R, T) = some (zk_pk I (a + 7) 42 i, (S, I, R, T)) := by
  obtain ⟨h0, h1, ⟨r3, r4, r5, r6, r7, r8, r9, r10⟩, s1, s2, s3, s4, s5, s6, s7, s8⟩ := id h
  rw [zm_42]
  simp (disch := first | assumption | omega | trivial) only [if_pos, if_neg, if_true, if_false, true_and, and_true, not_true_eq_false, not_false_eq_true, false_and, and_false, Option.bind_some, zq_t, zq_f, zq0, zq1, zw_id, h1, r9, zx_pick (show 0 < a + 7 by omega) s7]
theorem zx_firstColumn (h : zs_ll S R a) : zG (d + 1) 43 [.inr (.inr a), .inl i] (S, I, R, T) = some (zl_c0 (I a 2) i, (S, I, R, T)) := by
  obtain ⟨h0, h1, ⟨r3, r4, r5, r6, r7, r8, r9, r10⟩, s1, s2, s3, s4, s5, s6, s7, s8⟩ := id h
  rw [zm_43]
  unfold zl_c0
  by_cases g : i = 0 <;> simp (disch := first | assumption | omega | trivial) only [if_pos, if_neg, if_true, if_false, true_and, and_true, not_true_eq_false, not_false_eq_true, false_and, and_false, Option.bind_some, zq_t, zq_f, zq0, zq1, zw_id, h1]
theorem zx_columnBehind (h : zs_ll S R a) : zG (d + 2) 44 [.inr (.inr a), .inl i] (S, I, R, T) = some (zk_pk I (a + 8) 41 i, (S, I, R, T)) := by
  obtain ⟨h0, h1, ⟨r3, r4, r5, r6, r7, r8, r9, r10⟩, s1, s2, s3, s4, s5, s6, s7, s8⟩ := id h
  rw [zm_44]
  simp (disch := first | assumption | omega | trivial) only [if_pos, if_neg, if_true, if_false, true_and, and_true, not_true_eq_false, not_false_eq_true, false_and, and_false, Option.bind_some, zq_t, zq_f, zq0, zq1, zw_id, h1, r10, zx_pick (show 0 < a + 8 by omega) s8]
theorem zx_stopCount (h : zs_ll S R a) (hn : 0 ≤ I a 0 ∧ I a 0 ≤ 40) (hg : ∀ j, 0 ≤ j → j < I a 0 + 1 → 0 ≤ I (a + 5) j ∧ I (a + 5) j ≤ 1) : zG (d + 3) 35 [.inr (.inr a)] (S, I, R, T) = some (zk_sm (I (a + 5)) (I a 0 + 1), (S, I, R, T)) := by
  obtain ⟨h0, h1, ⟨r3, r4, r5, r6, r7, r8, r9, r10⟩, s1, s2, s3, s4, s5, s6, s7, s8⟩ := id h
  rw [zm_35]
  simp (disch := first | assumption | omega | trivial) only [if_pos, if_neg, if_true, if_false, true_and, and_true, not_true_eq_false, not_false_eq_true, false_and, and_false, Option.bind_some, zq_t, zq_f, zq0, zq1, zw_id, h1, r7, zx_sum (show 0 < a + 5 by omega) s5 (show (0 : Int) ≤ 1 ∧ (1 : Int) ≤ 1000 by omega) (by omega) (show 0 ≤ I a 0 + 1 ∧ I a 0 + 1 ≤ 41 by omega) hg]
theorem zx_breakCount (h : zs_ll S R a) (hn : 0 ≤ I a 0 ∧ I a 0 ≤ 40) (hg : ∀ j, 0 ≤ j → j < I a 0 + 1 → 0 ≤ I (a + 6) j ∧ I (a + 6) j ≤ 1) : zG (d + 3) 36 [.inr (.inr a)] (S, I, R, T) = some (zk_sm (I (a + 6)) (I a 0 + 1), (S, I, R, T)) := by
  obtain ⟨h0, h1, ⟨r3, r4, r5, r6, r7, r8, r9, r10⟩, s1, s2, s3, s4, s5, s6, s7, s8⟩ := id h
  rw [zm_36]
  simp (disch := first | assumption | omega | trivial) only [if_pos, if_neg, if_true, if_false, true_and, and_true, not_true_eq_false, not_false_eq_true, false_and, and_false, Option.bind_some, zq_t, zq_f, zq0, zq1, zw_id, h1, r8, zx_sum (show 0 < a + 6 by omega) s6 (show (0 : Int) ≤ 1 ∧ (1 : Int) ≤ 1000 by omega) (by omega) (show 0 ≤ I a 0 + 1 ∧ I a 0 + 1 ≤ 41 by omega) hg]
theorem zx_hangCount (h : zs_ll S R a) (hn : 0 ≤ I a 0 ∧ I a 0 ≤ 40) (hg : ∀ j, 0 ≤ j → j < I a 0 → 0 ≤ I (a + 4) j ∧ I (a + 4) j ≤ 1) : zG (d + 3) 37 [.inr (.inr a)] (S, I, R, T) = some (zk_sm (I (a + 4)) (I a 0), (S, I, R, T)) := by
  obtain ⟨h0, h1, ⟨r3, r4, r5, r6, r7, r8, r9, r10⟩, s1, s2, s3, s4, s5, s6, s7, s8⟩ := id h
  rw [zm_37]
  simp (disch := first | assumption | omega | trivial) only [if_pos, if_neg, if_true, if_false, true_and, and_true, not_true_eq_false, not_false_eq_true, false_and, and_false, Option.bind_some, zq_t, zq_f, zq0, zq1, zw_id, h1, r6, zx_sum (show 0 < a + 4 by omega) s4 (show (0 : Int) ≤ 1 ∧ (1 : Int) ≤ 1000 by omega) (by omega) (show 0 ≤ I a 0 ∧ I a 0 ≤ 41 by omega) hg]
theorem zx_placeCovering (h : zs_ll S R a) (hr : 0 ≤ r ∧ r < 41) (hb : 0 ≤ I (a + 7) r) (he : I (a + 7) (r + 1) ≤ 41) (hc : ∀ i, I (a + 7) r ≤ i → i < I (a + 7) (r + 1) → (0 ≤ I (a + 2) i ∧ I (a + 2) i ≤ 1000) ∧ 0 ≤ I (a + 3) i ∧ I (a + 3) i ≤ 1000) : ∃ v, zG (d + 3) 45 [.inr (.inr a), .inl r, .inl x] (S, I, R, T) = some (v, (S, I, R, T)) ∧ zl_fst (I (a + 7) r) (I (a + 7) (r + 1)) (fun i => I (a + 2) i ≤ x ∧ x < I (a + 2) i + I (a + 3) i) v := by
  obtain ⟨h0, h1, ⟨r3, r4, r5, r6, r7, r8, r9, r10⟩, s1, s2, s3, s4, s5, s6, s7, s8⟩ := id h
  rw [zm_45]
  simp (disch := first | assumption | omega | trivial) only [if_pos, if_neg, if_true, if_false, true_and, and_true, not_true_eq_false, not_false_eq_true, false_and, and_false, Option.bind_some, zq_t, zq_f, zq0, zq1, zw_id, h1, zx_firstPlace h, zk_pk_in]
  have key : ∀ (w : Nat) (k : Int), I (a + 7) r ≤ k → (∀ j, I (a + 7) r ≤ j → j < k → ¬ (I (a + 2) j ≤ x ∧ x < I (a + 2) j + I (a + 3) j)) → (I (a + 7) (r + 1) - k).toNat < w → ∃ v, zi_run zt_45 (zG (d + 2)) w 15 [some (.inr (.inr a)), none, some (.inl x), some (.inl (I (a + 7) (r + 1))), some (.inl k), none] [] (S, I, R, T) = some (v, (S, I, R, T)) ∧ zl_fst (I (a + 7) r) (I (a + 7) (r + 1)) (fun i => I (a + 2) i ≤ x ∧ x < I (a + 2) i + I (a + 3) i) v := by
    intro w
    induction w with
    | zero => intro k _ _ q; omega
    | succ w ih =>
      intro k k1 hp k3
      rw [zk_45_15]
      by_cases hk : k < I (a + 7) (r + 1)
      · have hck := hc k k1 hk
        have go : ¬ (I (a + 2) k ≤ x ∧ x < I (a + 2) k + I (a + 3) k) → ∃ v, zi_run zt_45 (zG (d + 2)) w 15 [some (.inr (.inr a)), none, some (.inl x), some (.inl (I (a + 7) (r + 1))), some (.inl (k + 1)), none] [] (S, I, R, T) = some (v, (S, I, R, T)) ∧ zl_fst (I (a + 7) r) (I (a + 7) (r + 1)) (fun i => I (a + 2) i ≤ x ∧ x < I (a + 2) i + I (a + 3) i) v := fun hn => ih (k + 1) (by omega) (fun j j1 j2 => by
          by_cases hj : j = k
          · rw [hj]; exact hn
          · exact hp j j1 (by omega)) (by omega)
        by_cases g1 : x < I (a + 2) k
        · simp (disch := first | assumption | omega | trivial) only [if_pos, if_neg, if_true, if_false, true_and, and_true, not_true_eq_false, not_false_eq_true, false_and, and_false, Option.bind_some, zq_t, zq_f, zq0, zq1, zw_id, h1, zx_columnOf h, zk_pk_in]
          exact go (by omega)
        · by_cases g2 : x < I (a + 2) k + I (a + 3) k
          · simp (disch := first | assumption | omega | trivial) only [if_pos, if_neg, if_true, if_false, true_and, and_true, not_true_eq_false, not_false_eq_true, false_and, and_false, Option.bind_some, zq_t, zq_f, zq0, zq1, zw_id, h1, r5, zx_columnOf h, zk_pk_in, zx_pick (show 0 < a + 3 by omega) s3]
            exact ⟨_, rfl, Or.inl ⟨k1, hk, ⟨by omega, g2⟩, hp⟩⟩
          · simp (disch := first | assumption | omega | trivial) only [if_pos, if_neg, if_true, if_false, true_and, and_true, not_true_eq_false, not_false_eq_true, false_and, and_false, Option.bind_some, zq_t, zq_f, zq0, zq1, zw_id, h1, r5, zx_columnOf h, zk_pk_in, zx_pick (show 0 < a + 3 by omega) s3]
            exact go (by omega)
      · simp (disch := first | assumption | omega | trivial) only [if_pos, if_neg, if_true, if_false, true_and, and_true, not_true_eq_false, not_false_eq_true, false_and, and_false, Option.bind_some, zq_t, zq_f, zq0, zq1, zw_id]
        exact ⟨_, rfl, Or.inr ⟨rfl, fun j j1 j2 => hp j j1 (by omega)⟩⟩
  exact key 1019999 (I (a + 7) r) (Int.le_refl _) (fun j q1 q2 => absurd q2 (by omega)) (by omega)
theorem zx_placeNear (h : zs_ll S R a) (hr : 0 ≤ r ∧ r < 41) (hb : 0 ≤ I (a + 7) r ∧ I (a + 7) r ≤ I a 0) (he : I a 0 ≤ 40) : ∃ v, zG (d + 3) 46 [.inr (.inr a), .inl r, .inl x] (S, I, R, T) = some (v, (S, I, R, T)) ∧ zl_lst (I (a + 7) r) (I a 0 + 1) (fun i => I (a + 1) i = r ∧ I (a + 5) i = 1 ∧ I (a + 2) i ≤ x) v := by
  obtain ⟨h0, h1, ⟨r3, r4, r5, r6, r7, r8, r9, r10⟩, s1, s2, s3, s4, s5, s6, s7, s8⟩ := id h
  rw [zm_46]
  simp (disch := first | assumption | omega | trivial) only [if_pos, if_neg, if_true, if_false, true_and, and_true, not_true_eq_false, not_false_eq_true, false_and, and_false, Option.bind_some, zq_t, zq_f, zq0, zq1, zw_id, h1, zx_firstPlace h, zk_pk_in]
  have key : ∀ (w : Nat) (k pl : Int), I (a + 7) r < k → k ≤ I a 0 + 1 → zl_lst (I (a + 7) r) k (fun i => I (a + 1) i = r ∧ I (a + 5) i = 1 ∧ I (a + 2) i ≤ x) pl → (I a 0 + 1 - k).toNat < w → ∃ v, zi_run zt_46 (zG (d + 2)) w 11 [some (.inr (.inr a)), some (.inl r), some (.inl x), some (.inl pl), some (.inl k)] [] (S, I, R, T) = some (v, (S, I, R, T)) ∧ zl_lst (I (a + 7) r) (I a 0 + 1) (fun i => I (a + 1) i = r ∧ I (a + 5) i = 1 ∧ I (a + 2) i ≤ x) v := by
    intro w
    induction w with
    | zero => intro k pl _ _ _ q; omega
    | succ w ih =>
      intro k pl k1 k2 hp k3
      rw [zk_46_11]
      by_cases hk : I a 0 < k
      · obtain rfl : k = I a 0 + 1 := by omega
        simp (disch := first | assumption | omega | trivial) only [if_pos, if_neg, if_true, if_false, true_and, and_true, not_true_eq_false, not_false_eq_true, false_and, and_false, Option.bind_some, zq_t, zq_f, zq0, zq1, zw_id, h1]
        exact ⟨_, rfl, hp⟩
      · have no : ¬ (I (a + 1) k = r ∧ I (a + 5) k = 1 ∧ I (a + 2) k ≤ x) → ∃ v, zi_run zt_46 (zG (d + 2)) w 11 [some (.inr (.inr a)), some (.inl r), some (.inl x), some (.inl pl), some (.inl (k + 1))] [] (S, I, R, T) = some (v, (S, I, R, T)) ∧ zl_lst (I (a + 7) r) (I a 0 + 1) (fun i => I (a + 1) i = r ∧ I (a + 5) i = 1 ∧ I (a + 2) i ≤ x) v := fun hn => ih (k + 1) pl (by omega) (by omega) (by
          rcases hp with ⟨p1, p2, p3, p4⟩ | ⟨p1, p2⟩
          · refine Or.inl ⟨p1, by omega, p3, fun j j1 j2 => ?_⟩
            by_cases hj : j = k
            · rw [hj]; exact hn
            · exact p4 j j1 (by omega)
          · refine Or.inr ⟨p1, fun j j1 j2 => ?_⟩
            by_cases hj : j = k
            · rw [hj]; exact hn
            · exact p2 j j1 (by omega)) (by omega)
        by_cases g1 : I (a + 1) k = r
        · by_cases g2 : I (a + 5) k = 1
          · by_cases g3 : x < I (a + 2) k
            · simp (disch := first | assumption | omega | trivial) only [if_pos, if_neg, if_true, if_false, true_and, and_true, not_true_eq_false, not_false_eq_true, false_and, and_false, Option.bind_some, zq_t, zq_f, zq0, zq1, zw_id, h1, zx_rowOf h, zx_isStop h, zx_columnOf h, zk_pk_in]
              exact no (by omega)
            · simp (disch := first | assumption | omega | trivial) only [if_pos, if_neg, if_true, if_false, true_and, and_true, not_true_eq_false, not_false_eq_true, false_and, and_false, Option.bind_some, zq_t, zq_f, zq0, zq1, zw_id, h1, zx_rowOf h, zx_isStop h, zx_columnOf h, zk_pk_in]
              exact ih (k + 1) k (by omega) (by omega) (Or.inl ⟨k1, by omega, ⟨g1, g2, by omega⟩, fun j j1 j2 => absurd j1 (by omega)⟩) (by omega)
          · simp (disch := first | assumption | omega | trivial) only [if_pos, if_neg, if_true, if_false, true_and, and_true, not_true_eq_false, not_false_eq_true, false_and, and_false, Option.bind_some, zq_t, zq_f, zq0, zq1, zw_id, h1, zx_rowOf h, zx_isStop h, zk_pk_in]
            exact no (fun q => g2 q.2.1)
        · simp (disch := first | assumption | omega | trivial) only [if_pos, if_neg, if_true, if_false, true_and, and_true, not_true_eq_false, not_false_eq_true, false_and, and_false, Option.bind_some, zq_t, zq_f, zq0, zq1, zw_id, h1, zx_rowOf h, zk_pk_in]
          exact no (fun q => g1 q.1)
  exact key 1019999 (I (a + 7) r + 1) (I (a + 7) r) (by omega) (by omega) (Or.inr ⟨rfl, fun j j1 j2 => absurd j1 (by omega)⟩) (by omega)
theorem zx_stopFrom (h : zs_ll S R a) (hi : 0 ≤ i ∧ i ≤ I a 0) (he : I a 0 ≤ 40) : ∃ v, zG (d + 3) 47 [.inr (.inr a), .inl i] (S, I, R, T) = some (v, (S, I, R, T)) ∧ zl_nx i (I a 0) (fun j => I (a + 5) j = 1) v := by
  obtain ⟨h0, h1, ⟨r3, r4, r5, r6, r7, r8, r9, r10⟩, s1, s2, s3, s4, s5, s6, s7, s8⟩ := id h
  rw [zm_47]
  have key : ∀ (w : Nat) (k : Int), i ≤ k → k ≤ I a 0 → (∀ j, i ≤ j → j < k → ¬ I (a + 5) j = 1) → (I a 0 - k).toNat < w → ∃ v, zi_run zt_47 (zG (d + 2)) w 2 [some (.inr (.inr a)), none, some (.inl k)] [] (S, I, R, T) = some (v, (S, I, R, T)) ∧ zl_nx i (I a 0) (fun j => I (a + 5) j = 1) v := by
    intro w
    induction w with
    | zero => intro k _ _ _ q; omega
    | succ w ih =>
      intro k k1 k2 hp k3
      rw [zk_47_2]
      by_cases hk : k < I a 0
      · by_cases g2 : I (a + 5) k = 1
        · simp (disch := first | assumption | omega | trivial) only [if_pos, if_neg, if_true, if_false, true_and, and_true, not_true_eq_false, not_false_eq_true, false_and, and_false, Option.bind_some, zq_t, zq_f, zq0, zq1, zw_id, h1, zx_isStop h, zk_pk_in]
          exact ⟨_, rfl, k1, by omega, Or.inr g2, hp⟩
        · simp (disch := first | assumption | omega | trivial) only [if_pos, if_neg, if_true, if_false, true_and, and_true, not_true_eq_false, not_false_eq_true, false_and, and_false, Option.bind_some, zq_t, zq_f, zq0, zq1, zw_id, h1, zx_isStop h, zk_pk_in]
          exact ih (k + 1) (by omega) (by omega) (fun j j1 j2 => by
            by_cases hj : j = k
            · rw [hj]; exact g2
            · exact hp j j1 (by omega)) (by omega)
      · simp (disch := first | assumption | omega | trivial) only [if_pos, if_neg, if_true, if_false, true_and, and_true, not_true_eq_false, not_false_eq_true, false_and, and_false, Option.bind_some, zq_t, zq_f, zq0, zq1, zw_id, h1]
        exact ⟨_, rfl, by omega, by omega, Or.inl rfl, fun j j1 j2 => hp j j1 (by omega)⟩
  exact key 1019999 i (by omega) (by omega) (fun j j1 j2 => absurd j1 (by omega)) (by omega)
theorem zx_stopBehind (h : zs_ll S R a) (hi : 0 ≤ i ∧ i ≤ I a 0) (he : I a 0 ≤ 40) : ∃ v, zG (d + 4) 48 [.inr (.inr a), .inl i] (S, I, R, T) = some (v, (S, I, R, T)) ∧ ((i < I a 0 ∧ zl_nx (i + 1) (I a 0) (fun j => I (a + 5) j = 1) v) ∨ (i = I a 0 ∧ v = -1)) := by
  rw [zm_48]
  have h1 := h.2.1
  by_cases g : i < I a 0
  · obtain ⟨v, e1, e2⟩ := zx_stopFrom (d := d) (I := I) (T := T) (i := i + 1) h (by omega) he
    simp (disch := first | assumption | omega | trivial) only [if_pos, if_neg, if_true, if_false, true_and, and_true, not_true_eq_false, not_false_eq_true, false_and, and_false, Option.bind_some, zq_t, zq_f, zq0, zq1, zw_id, h1, e1]
    exact ⟨_, rfl, Or.inl ⟨g, e2⟩⟩
  · simp (disch := first | assumption | omega | trivial) only [if_pos, if_neg, if_true, if_false, true_and, and_true, not_true_eq_false, not_false_eq_true, false_and, and_false, Option.bind_some, zq_t, zq_f, zq0, zq1, zw_id, h1]
    exact ⟨_, rfl, Or.inr ⟨by omega, rfl⟩⟩
theorem zx_stopAhead (h : zs_ll S R a) (hi : 0 ≤ i ∧ i ≤ 41) : ∃ v, zG (d + 3) 49 [.inr (.inr a), .inl i] (S, I, R, T) = some (v, (S, I, R, T)) ∧ zl_pv i (fun j => I (a + 5) j = 1) v := by
  obtain ⟨h0, h1, ⟨r3, r4, r5, r6, r7, r8, r9, r10⟩, s1, s2, s3, s4, s5, s6, s7, s8⟩ := id h
  rw [zm_49]
  have key : ∀ (w : Nat) (k : Int), -1 ≤ k → k < i → (∀ j, k < j → j < i → ¬ I (a + 5) j = 1) → (k + 1).toNat < w → ∃ v, zi_run zt_49 (zG (d + 2)) w 4 [some (.inr (.inr a)), none, some (.inl k)] [] (S, I, R, T) = some (v, (S, I, R, T)) ∧ zl_pv i (fun j => I (a + 5) j = 1) v := by
    intro w
    induction w with
    | zero => intro k _ _ _ q; omega
    | succ w ih =>
      intro k k1 k2 hp k3
      rw [zk_49_4]
      by_cases hk : k < 0
      · obtain rfl : k = -1 := by omega
        simp (disch := first | assumption | omega | trivial) only [if_pos, if_neg, if_true, if_false, true_and, and_true, not_true_eq_false, not_false_eq_true, false_and, and_false, Option.bind_some, zq_t, zq_f, zq0, zq1, zw_id]
        exact ⟨_, rfl, Or.inr rfl, hp⟩
      · by_cases g2 : I (a + 5) k = 1
        · simp (disch := first | assumption | omega | trivial) only [if_pos, if_neg, if_true, if_false, true_and, and_true, not_true_eq_false, not_false_eq_true, false_and, and_false, Option.bind_some, zq_t, zq_f, zq0, zq1, zw_id, h1, zx_isStop h, zk_pk_in]
          exact ⟨_, rfl, Or.inl ⟨by omega, k2, g2⟩, hp⟩
        · simp (disch := first | assumption | omega | trivial) only [if_pos, if_neg, if_true, if_false, true_and, and_true, not_true_eq_false, not_false_eq_true, false_and, and_false, Option.bind_some, zq_t, zq_f, zq0, zq1, zw_id, h1, zx_isStop h, zk_pk_in]
          exact ih (k + -1) (by omega) (by omega) (fun j j1 j2 => by
            by_cases hj : j = k
            · rw [hj]; exact g2
            · exact hp j (by omega) j2) (by omega)
  simp (disch := first | assumption | omega | trivial) only [if_pos, if_neg, if_true, if_false, true_and, and_true, not_true_eq_false, not_false_eq_true, false_and, and_false, Option.bind_some, zq_t, zq_f, zq0, zq1, zw_id]
  exact key 1019999 (i - 1) (by omega) (by omega) (fun j j1 j2 => absurd j1 (by omega)) (by omega)
end ZLl
