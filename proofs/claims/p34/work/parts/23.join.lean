/-! the class: folds follow when two lines become one -/
noncomputable def zj_x (l v : Int) : Int := if l < v then v - 1 else v
def zj_cl (A : zI) (c x y : Int) : Prop := ∃ j, (0 ≤ j ∧ j < c) ∧ zf_odds (A 1 j) (A 2 j) x y
def zj_app (A : zI) (c x y v : Int) : zI := zi_up (zi_up (zi_up A 1 c x) 2 c y) 3 c v
noncomputable def zj_step (F : zI) (l k : Int) (p : Int × zI) : Int × zI := @ite _ (zj_x l (F 1 k) < zj_x l (F 2 k) ∧ ¬ zj_cl p.2 p.1 (zj_x l (F 1 k)) (zj_x l (F 2 k))) (Classical.propDecidable _) (p.1 + 1, zj_app p.2 p.1 (zj_x l (F 1 k)) (zj_x l (F 2 k)) (F 3 k)) p
noncomputable def zj_fold (F : zI) (l : Int) : Nat → Int × zI
  | 0 => (0, F)
  | k + 1 => zj_step F l k (zj_fold F l k)
theorem zj_step_t {F : zI} {l k : Int} {p : Int × zI} (h : zj_x l (F 1 k) < zj_x l (F 2 k) ∧ ¬ zj_cl p.2 p.1 (zj_x l (F 1 k)) (zj_x l (F 2 k))) : zj_step F l k p = (p.1 + 1, zj_app p.2 p.1 (zj_x l (F 1 k)) (zj_x l (F 2 k)) (F 3 k)) := by
  unfold zj_step
  exact if_pos h
theorem zj_step_f {F : zI} {l k : Int} {p : Int × zI} (h : ¬ (zj_x l (F 1 k) < zj_x l (F 2 k) ∧ ¬ zj_cl p.2 p.1 (zj_x l (F 1 k)) (zj_x l (F 2 k)))) : zj_step F l k p = p := by
  unfold zj_step
  exact if_neg h
theorem zj_step_c {F : zI} {l k : Int} {p : Int × zI} : (zj_step F l k p).1 = p.1 ∨ (zj_step F l k p).1 = p.1 + 1 := by
  by_cases h : zj_x l (F 1 k) < zj_x l (F 2 k) ∧ ¬ zj_cl p.2 p.1 (zj_x l (F 1 k)) (zj_x l (F 2 k))
  · rw [zj_step_t h]; exact Or.inr rfl
  · rw [zj_step_f h]; exact Or.inl rfl
theorem zj_fold_c {F : zI} {l : Int} : ∀ k : Nat, 0 ≤ (zj_fold F l k).1 ∧ (zj_fold F l k).1 ≤ k
  | 0 => by simp [zj_fold]
  | k + 1 => by
    have h := zj_fold_c (F := F) (l := l) k
    have g := zj_step_c (F := F) (l := l) (k := k) (p := zj_fold F l k)
    show 0 ≤ (zj_step F l k (zj_fold F l k)).1 ∧ (zj_step F l k (zj_fold F l k)).1 ≤ ((k + 1 : Nat) : Int)
    omega
section ZJn
variable {d : Nat} {S : zS} {I J M R : zI} {T : Int × Nat} {a b i n v l f c c' m k x y : Int}
def zj_inv (I M F : zI) (a k : Int) (p : Int × zI) : Prop := zo a (a + 4) I M ∧ M a 0 = p.1 ∧ (∀ j, 0 ≤ j → j < p.1 → M (a + 1) j = p.2 1 j ∧ M (a + 2) j = p.2 2 j ∧ M (a + 3) j = p.2 3 j) ∧ ∀ j, k ≤ j → M (a + 1) j = F 1 j ∧ M (a + 2) j = F 2 j ∧ M (a + 3) j = F 3 j
theorem zj_inv_cl {F : zI} {p : Int × zI} (h : zj_inv I M F a k p) : zf_clash M a x y ↔ zj_cl p.2 p.1 x y := by
  obtain ⟨h1, h2, h3, h4⟩ := h
  constructor
  · rintro ⟨j, ⟨j1, j2⟩, j3⟩
    rw [h2] at j2
    obtain ⟨e1, e2, e3⟩ := h3 j j1 j2
    rw [e1, e2] at j3
    exact ⟨j, ⟨j1, j2⟩, j3⟩
  · rintro ⟨j, ⟨j1, j2⟩, j3⟩
    obtain ⟨e1, e2, e3⟩ := h3 j j1 j2
    rw [← e1, ← e2] at j3
    exact ⟨j, ⟨j1, by omega⟩, j3⟩
theorem zj_inv_t {F : zI} {p : Int × zI} (h : zj_inv I M F a k p) (hp : 0 ≤ p.1 ∧ p.1 ≤ k) (hx : zj_x l (F 1 k) = x) (hy : zj_x l (F 2 k) = y) (hc : x < y ∧ ¬ zj_cl p.2 p.1 x y) : zj_inv I (zi_up (zi_up (zi_up (zi_up M (a + 1) p.1 x) (a + 2) p.1 y) (a + 3) p.1 (M (a + 3) k)) a 0 (p.1 + 1)) F a (k + 1) (zj_step F l k p) := by
  obtain ⟨h1, h2, h3, h4⟩ := h
  subst hx hy
  rw [zj_step_t hc]
  refine ⟨fun q hq => ?_, zu_eq ⟨rfl, rfl⟩, fun j j1 j2 => ?_, fun j j1 => ?_⟩
  · rw [← h1 q hq]
    funext j
    simp (disch := first | assumption | omega | trivial) only [if_pos, if_neg, if_true, if_false, true_and, and_true, not_true_eq_false, not_false_eq_true, false_and, and_false, Option.bind_some, zq_t, zq_f, zq0, zq1, zw_id, zi_up_at]
  · unfold zj_app
    dsimp only at j2
    by_cases hj : j = p.1
    · subst hj
      simp (disch := first | assumption | omega | trivial) only [if_pos, if_neg, if_true, if_false, true_and, and_true, not_true_eq_false, not_false_eq_true, false_and, and_false, Option.bind_some, zq_t, zq_f, zq0, zq1, zw_id, zi_up_at]
      exact (h4 k (Int.le_refl _)).2.2
    · have h3' := h3 j j1 (by omega)
      simp (disch := first | assumption | omega | trivial) only [if_pos, if_neg, if_true, if_false, true_and, and_true, not_true_eq_false, not_false_eq_true, false_and, and_false, Option.bind_some, zq_t, zq_f, zq0, zq1, zw_id, zi_up_at]
      exact h3'
  · have h4' := h4 j (by omega)
    simp (disch := first | assumption | omega | trivial) only [if_pos, if_neg, if_true, if_false, true_and, and_true, not_true_eq_false, not_false_eq_true, false_and, and_false, Option.bind_some, zq_t, zq_f, zq0, zq1, zw_id, zi_up_at]
    exact h4'
theorem zj_inv_f {F : zI} {p : Int × zI} (h : zj_inv I M F a k p) (hc : ¬ (zj_x l (F 1 k) < zj_x l (F 2 k) ∧ ¬ zj_cl p.2 p.1 (zj_x l (F 1 k)) (zj_x l (F 2 k)))) : zj_inv I M F a (k + 1) (zj_step F l k p) := by
  rw [zj_step_f hc]
  exact ⟨h.1, h.2.1, h.2.2.1, fun j hj => h.2.2.2 j (by omega)⟩
theorem zx_followJoin (h : zs_fo S R a) {F : zI} (hF : F = fun i j => I (a + i) j) (hc : I a 0 = n) (hn : 0 ≤ n ∧ n ≤ 8) (hb : ∀ j, 0 ≤ j → j < n → (0 ≤ I (a + 1) j ∧ I (a + 1) j ≤ 100) ∧ 0 ≤ I (a + 2) j ∧ I (a + 2) j ≤ 100) : ∃ M, zG (d + 4) 14 [.inr (.inr a), .inl l] (S, I, R, T) = some (0, (S, M, R, T)) ∧ zj_inv I M F a n (zj_fold F l n.toNat) := by
  obtain ⟨h0, h1, h2, h3, h4, h5, h6, h7⟩ := id h
  rw [zm_14]
  simp (disch := first | assumption | omega | trivial) only [if_pos, if_neg, if_true, if_false, true_and, and_true, not_true_eq_false, not_false_eq_true, false_and, and_false, Option.bind_some, zq_t, zq_f, zq0, zq1, zw_id, h1, hc, zwr]
  have key : ∀ (w k : Nat) (M : zI) (W : Nat), (k : Int) ≤ n → n.toNat - k = w → 2 * w + 1 ≤ W → zj_inv I M F a k (zj_fold F l k) → ∃ J, zi_run zt_14 (zG (d + 3)) W 12 [some (.inr (.inr a)), some (.inl l), some (.inl n), some (.inl k), none, none] [] (S, M, R, T) = some (0, (S, J, R, T)) ∧ zj_inv I J F a n (zj_fold F l n.toNat) := by
    intro w
    induction w with
    | zero =>
      intro k M W k1 k2 k3 hM
      obtain ⟨W, rfl⟩ : ∃ W', W = W' + 1 := ⟨W - 1, by omega⟩
      rw [zk_14_12]
      obtain rfl : n = k := by omega
      simp (disch := first | assumption | omega | trivial) only [if_pos, if_neg, if_true, if_false, true_and, and_true, not_true_eq_false, not_false_eq_true, false_and, and_false, Option.bind_some, zq_t, zq_f, zq0, zq1, zw_id]
      rw [show ((k : Int)).toNat = k by omega]
      exact ⟨M, rfl, hM⟩
    | succ w ih =>
      intro k M W k1 k2 k3 hM
      obtain ⟨W, rfl⟩ : ∃ W', W = W' + 1 + 1 := ⟨W - 2, by omega⟩
      obtain ⟨p1, p2, p3, p4⟩ := id hM
      obtain ⟨e1, e2, e3⟩ := p4 k (Int.le_refl _)
      have hbk := hb k (by omega) (by omega)
      have hcc := zj_fold_c (F := F) (l := l) k
      have f1 : F 1 k = I (a + 1) k := by rw [hF]
      have f2 : F 2 k = I (a + 2) k := by rw [hF]
      rw [f1] at e1
      rw [f2] at e2
      rw [zk_14_12]
      have h67 : ∀ x y, zj_x l (F 1 k) = x → zj_x l (F 2 k) = y → ∃ J, zi_run zt_14 (zG (d + 3)) (W + 1) 67 [some (.inr (.inr a)), some (.inl l), some (.inl n), some (.inl k), some (.inl x), none] [.inl y] (S, M, R, T) = some (0, (S, J, R, T)) ∧ zj_inv I J F a n (zj_fold F l n.toNat) := by
        intro x y hx hy
        rw [zk_14_67]
        by_cases g1 : x < y
        · by_cases g2 : zf_clash M a x y
          · simp (disch := first | assumption | omega | trivial) only [if_pos, if_neg, if_true, if_false, true_and, and_true, not_true_eq_false, not_false_eq_true, false_and, and_false, Option.bind_some, zq_t, zq_f, zq0, zq1, zw_id, h1, zx_clash h]
            refine ih (k + 1) M W (by omega) (by omega) (by omega) (zj_inv_f hM ?_)
            rw [hx, hy]
            exact fun q => q.2 ((zj_inv_cl hM).mp g2)
          · have hz : ∀ u v1 v2 v3, zi_up (zi_up (zi_up M (a + 1) u v1) (a + 2) u v2) (a + 3) u v3 a 0 = M a 0 := fun u v1 v2 v3 => by rw [zu_ne (by omega), zu_ne (by omega), zu_ne (by omega)]
            simp (disch := first | assumption | omega | trivial) only [if_pos, if_neg, if_true, if_false, true_and, and_true, not_true_eq_false, not_false_eq_true, false_and, and_false, Option.bind_some, zq_t, zq_f, zq0, zq1, zw_id, h1, h4, zx_clash h, zx_pickShut h, zk_pk_in, p2, zx_write h, hz, zwr]
            exact ih (k + 1) _ W (by omega) (by omega) (by omega) (zj_inv_t hM ⟨hcc.1, hcc.2⟩ hx hy ⟨g1, fun q => g2 ((zj_inv_cl hM).mpr q)⟩)
        · simp (disch := first | assumption | omega | trivial) only [if_pos, if_neg, if_true, if_false, true_and, and_true, not_true_eq_false, not_false_eq_true, false_and, and_false, Option.bind_some, zq_t, zq_f, zq0, zq1, zw_id]
          refine ih (k + 1) M W (by omega) (by omega) (by omega) (zj_inv_f hM ?_)
          rw [hx, hy]
          exact fun q => g1 q.1
      have hkn : (k : Int) < n := by omega
      by_cases g1 : l < I (a + 1) k <;> by_cases g2 : l < I (a + 2) k <;> simp (disch := first | assumption | omega | trivial) only [if_pos, if_neg, if_true, if_false, true_and, and_true, not_true_eq_false, not_false_eq_true, false_and, and_false, Option.bind_some, zq_t, zq_f, zq0, zq1, zw_id, h1, zx_firstOf h, zx_lastOf h, zk_pk_in, e1, e2] <;> exact h67 _ _ (by rw [f1]; unfold zj_x; simp (disch := first | assumption | omega | trivial) only [if_pos, if_neg, if_true, if_false, true_and, and_true, not_true_eq_false, not_false_eq_true, false_and, and_false, Option.bind_some, zq_t, zq_f, zq0, zq1, zw_id]) (by rw [f2]; unfold zj_x; simp (disch := first | assumption | omega | trivial) only [if_pos, if_neg, if_true, if_false, true_and, and_true, not_true_eq_false, not_false_eq_true, false_and, and_false, Option.bind_some, zq_t, zq_f, zq0, zq1, zw_id])
  refine key n.toNat 0 _ 1019999 (by omega) (by omega) (by omega) ⟨zo_up (by omega), zu_eq ⟨rfl, rfl⟩, fun j j1 j2 => absurd j2 (by show ¬ j < 0; omega), fun j j1 => ?_⟩
  rw [hF]
  exact ⟨zu_ne (by omega), zu_ne (by omega), zu_ne (by omega)⟩
end ZJn
