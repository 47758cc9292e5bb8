/-! the class: frames, the history -/
theorem zs_li_congr {S : zS} {R R' : zI} {a : Int} (h : zs_li S R a) (hr : R' a = R a) : zs_li S R' a := by
  unfold zs_li at *
  rw [hr]; exact h
theorem zs_fo_congr {S : zS} {R R' : zI} {a : Int} (h : zs_fo S R a) (hr : R' a = R a) : zs_fo S R' a := by
  unfold zs_fo at *
  rw [hr]; exact h
theorem zs_fr_congr {S : zS} {R R' : zI} {f : Int} (h : zs_fr S R f) (h0 : R' f = R f) (h1 : R' (f + 1) = R (f + 1)) (h4 : R' (f + 4) = R (f + 4)) : zs_fr S R' f := by
  obtain ⟨a, b, c, e, g, k⟩ := h
  exact ⟨a, b, by rw [h0]; exact c, by rw [h0]; exact e, zs_li_congr g h1, zs_fo_congr k h4⟩
section ZFrm
variable {d : Nat} {S : zS} {I J R : zI} {T : Int × Nat} {a b i n v l f g c c' m k x y s h : Int}
def zp_fcl (I : zI) (f : Int) : zI := zi_up (zi_up (zi_up (zi_up (zi_up I (f + 1) 0 1) (f + 1 + 1) 0 0) (f + 4) 0 0) f 2 0) f 3 0
theorem zx_FrClear (h : zs_fr S R f) : zG (d + 3) 20 [.inr (.inr f)] (S, I, R, T) = some (0, (S, zp_fcl I f, R, T)) := by
  obtain ⟨h0, h1, h2, h3, h4, h5⟩ := h
  rw [zm_20]
  unfold zp_fcl
  simp (disch := first | assumption | omega | trivial) only [if_pos, if_neg, if_true, if_false, true_and, and_true, not_true_eq_false, not_false_eq_true, false_and, and_false, Option.bind_some, zq_t, zq_f, zq0, zq1, zw_id, h1, h2, h3, h4.2.1, h5.2.1, zx_Lclear h4, zx_Fclear h5, zwr]
def zv_freq (I J : zI) (f g : Int) : Prop := J f 2 = I g 2 ∧ J f 3 = I g 3 ∧ zv_leq I J (f + 1) (g + 1) ∧ zv_feq I J (f + 4) (g + 4)
theorem zx_FrCopy (h : zs_fr S R f) (h' : zs_fr S R g) (hfg : f + 8 ≤ g ∨ g + 8 ≤ f) : ∃ J, zG (d + 4) 21 [.inr (.inr f), .inr (.inr g)] (S, I, R, T) = some (0, (S, J, R, T)) ∧ zo f (f + 8) I J ∧ zv_freq I J f g := by
  obtain ⟨h0, h1, h2, h3, h4, h5⟩ := h
  obtain ⟨g0, g1, g2, g3, g4, g5⟩ := h'
  rw [zm_21]
  obtain ⟨J1, e1, o1, q1⟩ := zx_LcopyFrom (d := d) (I := I) (T := T) h4 g4 (by omega)
  obtain ⟨J2, e2, o2, q2⟩ := zx_FcopyFrom (d := d) (I := J1) (T := T) h5 g5 (by omega)
  simp (disch := first | assumption | omega | trivial) only [if_pos, if_neg, if_true, if_false, true_and, and_true, not_true_eq_false, not_false_eq_true, false_and, and_false, Option.bind_some, zq_t, zq_f, zq0, zq1, zw_id, h1, h2, h3, g1, g2, g3, h4.2.1, h5.2.1, e1, e2, zwr, zu_ne]
  have og : J2 g = I g := (o2 g (by omega)).trans (o1 g (by omega))
  refine ⟨_, rfl, fun x hx => ?_, ?_, ?_, ?_, ?_⟩
  · rw [zu_off (by omega), zu_off (by omega), o2 x (by omega), o1 x (by omega)]
  · simp (disch := first | assumption | omega | trivial) only [if_pos, if_neg, if_true, if_false, true_and, and_true, not_true_eq_false, not_false_eq_true, false_and, and_false, Option.bind_some, zq_t, zq_f, zq0, zq1, zw_id, zi_up_at, og]
  · simp (disch := first | assumption | omega | trivial) only [if_pos, if_neg, if_true, if_false, true_and, and_true, not_true_eq_false, not_false_eq_true, false_and, and_false, Option.bind_some, zq_t, zq_f, zq0, zq1, zw_id, zi_up_at, og]
  · obtain ⟨a1, a2, a3⟩ := q1
    have k1 := o2 (f + 1) (by omega)
    have k2 := o2 (f + 1 + 1) (by omega)
    have k3 := o2 (f + 1 + 2) (by omega)
    refine ⟨?_, fun j j1 j2 => ?_, fun j j1 j2 => ?_⟩
    · simp (disch := first | assumption | omega | trivial) only [if_pos, if_neg, if_true, if_false, true_and, and_true, not_true_eq_false, not_false_eq_true, false_and, and_false, Option.bind_some, zq_t, zq_f, zq0, zq1, zw_id, zi_up_at, k1, a1]
    · simp (disch := first | assumption | omega | trivial) only [if_pos, if_neg, if_true, if_false, true_and, and_true, not_true_eq_false, not_false_eq_true, false_and, and_false, Option.bind_some, zq_t, zq_f, zq0, zq1, zw_id, zi_up_at, k2, a2 j j1 j2]
    · simp (disch := first | assumption | omega | trivial) only [if_pos, if_neg, if_true, if_false, true_and, and_true, not_true_eq_false, not_false_eq_true, false_and, and_false, Option.bind_some, zq_t, zq_f, zq0, zq1, zw_id, zi_up_at, k3, a3 j j1 j2]
  · obtain ⟨a1, a2, a3, a4⟩ := q2
    have k1 := o1 (g + 4) (by omega)
    have k2 := o1 (g + 4 + 1) (by omega)
    have k3 := o1 (g + 4 + 2) (by omega)
    have k4 := o1 (g + 4 + 3) (by omega)
    refine ⟨?_, fun j j1 j2 => ?_, fun j j1 j2 => ?_, fun j j1 j2 => ?_⟩
    · simp (disch := first | assumption | omega | trivial) only [if_pos, if_neg, if_true, if_false, true_and, and_true, not_true_eq_false, not_false_eq_true, false_and, and_false, Option.bind_some, zq_t, zq_f, zq0, zq1, zw_id, zi_up_at, k1, a1]
    · simp (disch := first | assumption | omega | trivial) only [if_pos, if_neg, if_true, if_false, true_and, and_true, not_true_eq_false, not_false_eq_true, false_and, and_false, Option.bind_some, zq_t, zq_f, zq0, zq1, zw_id, zi_up_at, k2, a2 j j1 j2]
    · simp (disch := first | assumption | omega | trivial) only [if_pos, if_neg, if_true, if_false, true_and, and_true, not_true_eq_false, not_false_eq_true, false_and, and_false, Option.bind_some, zq_t, zq_f, zq0, zq1, zw_id, zi_up_at, k3, a3 j j1 j2]
    · simp (disch := first | assumption | omega | trivial) only [if_pos, if_neg, if_true, if_false, true_and, and_true, not_true_eq_false, not_false_eq_true, false_and, and_false, Option.bind_some, zq_t, zq_f, zq0, zq1, zw_id, zi_up_at, k4, a4 j j1 j2]
theorem zx_hiddenLines (h : zs_fr S R f) (hc : 0 ≤ I (f + 1) 0 ∧ I (f + 1) 0 ≤ 12) (hf : I (f + 4) 0 ≤ 8) : zG (d + 4) 22 [.inr (.inr f)] (S, I, R, T) = some (zk_sm (fun l => zq (zf_hid I (f + 4) l)) (I (f + 1) 0), (S, I, R, T)) := by
  obtain ⟨h0, h1, h2, h3, h4, h5⟩ := h
  rw [zm_22]
  refine zl_sum (n := I (f + 1) 0) (run := fun w k s => zi_run zt_22 (zG (d + 3)) w 4 [some (.inr (.inr f)), some (.inl s), some (.inl k)] [] (S, I, R, T)) hc.1 (fun w k k0 k1 => ?_) (fun w => ?_) (by omega) <;> (show zi_run _ _ _ _ _ _ _ = _) <;> rw [zk_22_4]
  · have hs := zk_sm_ir (g := fun l => zq (zf_hid I (f + 4) l)) (m := 1) k0 (fun j _ _ => by have := zq01 (P := zf_hid I (f + 4) j); show 0 ≤ zq _ ∧ zq _ ≤ 1; omega)
    generalize zk_sm _ k = s at hs ⊢
    by_cases p : zf_hid I (f + 4) k
    · simp (disch := first | assumption | omega | trivial) only [if_pos, if_neg, if_true, if_false, true_and, and_true, not_true_eq_false, not_false_eq_true, false_and, and_false, Option.bind_some, zq_t, zq_f, zq0, zq1, zw_id, h1, h2, h3, h4.2.1, h5.2.1, zx_hides h5 hf]
    · simp (disch := first | assumption | omega | trivial) only [if_pos, if_neg, if_true, if_false, true_and, and_true, not_true_eq_false, not_false_eq_true, false_and, and_false, Option.bind_some, zq_t, zq_f, zq0, zq1, zw_id, h1, h2, h3, h4.2.1, h5.2.1, zx_hides h5 hf, Int.add_zero]
  · generalize zk_sm _ (I (f + 1) 0) = s
    simp (disch := first | assumption | omega | trivial) only [if_pos, if_neg, if_true, if_false, true_and, and_true, not_true_eq_false, not_false_eq_true, false_and, and_false, Option.bind_some, zq_t, zq_f, zq0, zq1, zw_id, h1, h2, h3, h4.2.1]
theorem zx_shownAhead (h : zs_fr S R f) (hf : I (f + 4) 0 ≤ 8) (hc : 0 ≤ I f 2 ∧ I f 2 < 12) : ∃ v, zG (d + 4) 23 [.inr (.inr f)] (S, I, R, T) = some (v, (S, I, R, T)) ∧ (∀ j, v < j → j < I f 2 → zf_hid I (f + 4) j) ∧ ((0 ≤ v ∧ v < I f 2 ∧ ¬ zf_hid I (f + 4) v) ∨ v = -1) := by
  obtain ⟨h0, h1, h2, h3, h4, h5⟩ := h
  rw [zm_23]
  have key : ∀ (w : Nat) (k : Int), -1 ≤ k → k < I f 2 → (∀ j, k < j → j < I f 2 → zf_hid I (f + 4) j) → (k + 1).toNat < w → ∃ v, zi_run zt_23 (zG (d + 3)) w 7 [some (.inr (.inr f)), some (.inl k)] [] (S, I, R, T) = some (v, (S, I, R, T)) ∧ (∀ j, v < j → j < I f 2 → zf_hid I (f + 4) j) ∧ ((0 ≤ v ∧ v < I f 2 ∧ ¬ zf_hid I (f + 4) v) ∨ v = -1) := by
    intro w
    induction w with
    | zero => intro k _ _ _ q; omega
    | succ w ih =>
      intro k k1 k2 hp k3
      rw [zk_23_7]
      by_cases hk : k < 0
      · simp (disch := first | assumption | omega | trivial) only [if_pos, if_neg, if_true, if_false, true_and, and_true, not_true_eq_false, not_false_eq_true, false_and, and_false, Option.bind_some, zq_t, zq_f, zq0, zq1, zw_id]
        exact ⟨_, rfl, fun j j1 j2 => hp j (by omega) j2, Or.inr rfl⟩
      · by_cases p : zf_hid I (f + 4) k
        · simp (disch := first | assumption | omega | trivial) only [if_pos, if_neg, if_true, if_false, true_and, and_true, not_true_eq_false, not_false_eq_true, false_and, and_false, Option.bind_some, zq_t, zq_f, zq0, zq1, zw_id, h1, h3, h5.2.1, zx_hides h5 hf]
          refine ih (k + -1) (by omega) (by omega) (fun j j1 j2 => ?_) (by omega)
          by_cases hj : j = k
          · rw [hj]; exact p
          · exact hp j (by omega) j2
        · simp (disch := first | assumption | omega | trivial) only [if_pos, if_neg, if_true, if_false, true_and, and_true, not_true_eq_false, not_false_eq_true, false_and, and_false, Option.bind_some, zq_t, zq_f, zq0, zq1, zw_id, h1, h3, h5.2.1, zx_hides h5 hf]
          exact ⟨_, rfl, hp, Or.inl ⟨by omega, k2, p⟩⟩
  simp (disch := first | assumption | omega | trivial) only [if_pos, if_neg, if_true, if_false, true_and, and_true, not_true_eq_false, not_false_eq_true, false_and, and_false, Option.bind_some, zq_t, zq_f, zq0, zq1, zw_id, h1]
  exact key 1019999 (I f 2 - 1) (by omega) (by omega) (fun j j1 j2 => by omega) (by omega)
theorem zx_shownBehind (h : zs_fr S R f) (hf : I (f + 4) 0 ≤ 8) (hn : I (f + 1) 0 ≤ 12) (hc : 0 ≤ I f 2 ∧ I f 2 < I (f + 1) 0) : ∃ v, zG (d + 4) 24 [.inr (.inr f)] (S, I, R, T) = some (v, (S, I, R, T)) ∧ ((I f 2 < v ∧ v < I (f + 1) 0 ∧ ¬ zf_hid I (f + 4) v ∧ ∀ j, I f 2 < j → j < v → zf_hid I (f + 4) j) ∨ (v = -1 ∧ ∀ j, I f 2 < j → j < I (f + 1) 0 → zf_hid I (f + 4) j)) := by
  obtain ⟨h0, h1, h2, h3, h4, h5⟩ := h
  rw [zm_24]
  have key : ∀ (w : Nat) (k : Int), I f 2 < k → k ≤ I (f + 1) 0 → (∀ j, I f 2 < j → j < k → zf_hid I (f + 4) j) → (I (f + 1) 0 - k).toNat < w → ∃ v, zi_run zt_24 (zG (d + 3)) w 7 [some (.inr (.inr f)), some (.inl k)] [] (S, I, R, T) = some (v, (S, I, R, T)) ∧ ((I f 2 < v ∧ v < I (f + 1) 0 ∧ ¬ zf_hid I (f + 4) v ∧ ∀ j, I f 2 < j → j < v → zf_hid I (f + 4) j) ∨ (v = -1 ∧ ∀ j, I f 2 < j → j < I (f + 1) 0 → zf_hid I (f + 4) j)) := by
    intro w
    induction w with
    | zero => intro k _ _ _ q; omega
    | succ w ih =>
      intro k k1 k2 hp k3
      rw [zk_24_7]
      by_cases hk : k < I (f + 1) 0
      · by_cases p : zf_hid I (f + 4) k
        · simp (disch := first | assumption | omega | trivial) only [if_pos, if_neg, if_true, if_false, true_and, and_true, not_true_eq_false, not_false_eq_true, false_and, and_false, Option.bind_some, zq_t, zq_f, zq0, zq1, zw_id, h1, h2, h3, h4.2.1, h5.2.1, zx_hides h5 hf]
          refine ih (k + 1) (by omega) (by omega) (fun j j1 j2 => ?_) (by omega)
          by_cases hj : j = k
          · rw [hj]; exact p
          · exact hp j j1 (by omega)
        · simp (disch := first | assumption | omega | trivial) only [if_pos, if_neg, if_true, if_false, true_and, and_true, not_true_eq_false, not_false_eq_true, false_and, and_false, Option.bind_some, zq_t, zq_f, zq0, zq1, zw_id, h1, h2, h3, h4.2.1, h5.2.1, zx_hides h5 hf]
          exact ⟨_, rfl, Or.inl ⟨k1, hk, p, hp⟩⟩
      · simp (disch := first | assumption | omega | trivial) only [if_pos, if_neg, if_true, if_false, true_and, and_true, not_true_eq_false, not_false_eq_true, false_and, and_false, Option.bind_some, zq_t, zq_f, zq0, zq1, zw_id, h1, h2, h4.2.1]
        exact ⟨_, rfl, Or.inr ⟨rfl, fun j j1 j2 => hp j j1 (by omega)⟩⟩
  simp (disch := first | assumption | omega | trivial) only [if_pos, if_neg, if_true, if_false, true_and, and_true, not_true_eq_false, not_false_eq_true, false_and, and_false, Option.bind_some, zq_t, zq_f, zq0, zq1, zw_id, h1]
  exact key 1019999 (I f 2 + 1) (by omega) (by omega) (fun j j1 j2 => by omega) (by omega)
/-! the history -/
def zs_hi (S : zS) (R : zI) (h : Int) : Prop := 0 < h ∧ (S h).1 = 2 ∧ R h 0 = h + 1 ∧ S (h + 1) = (14, 16)
theorem zx_forget (hh : zs_hi S R h) : zG (d + 1) 26 [.inr (.inr h)] (S, I, R, T) = some (0, (S, zi_up (zi_up I h 1 0) h 2 0, R, T)) := by
  obtain ⟨h0, h1, h2, h3⟩ := hh
  rw [zm_26]
  simp (disch := first | assumption | omega | trivial) only [if_pos, if_neg, if_true, if_false, true_and, and_true, not_true_eq_false, not_false_eq_true, false_and, and_false, Option.bind_some, zq_t, zq_f, zq0, zq1, zw_id, h1, zwr]
theorem zx_exchange (hh : zs_hi S R h) (hk : 0 ≤ k ∧ k < 16) (hr : ¬ R (h + 1) k = 0) (hf : (S f).1 = 1) : zG (d + 1) 30 [.inr (.inr h), .inl k, .inr (.inr f)] (S, I, R, T) = some (R (h + 1) k, (S, I, zi_up R (h + 1) k f, T)) := by
  obtain ⟨h0, h1, h2, h3⟩ := hh
  rw [zm_30]
  simp (disch := first | assumption | omega | trivial) only [if_pos, if_neg, if_true, if_false, true_and, and_true, not_true_eq_false, not_false_eq_true, false_and, and_false, Option.bind_some, zq_t, zq_f, zq0, zq1, zw_id, h1, h2, h3, hf, zwq]
theorem zx_takeBack (hh : zs_hi S R h) (hk : 0 < I h 1 ∧ I h 1 ≤ 16) (hu : 0 ≤ I h 2 ∧ I h 2 ≤ 16) (hr : ¬ R (h + 1) (I h 1 - 1) = 0) (hf : (S f).1 = 1) : zG (d + 2) 28 [.inr (.inr h), .inr (.inr f)] (S, I, R, T) = some (R (h + 1) (I h 1 - 1), (S, zi_up (zi_up I h 1 (I h 1 - 1)) h 2 (I h 2 + 1), zi_up R (h + 1) (I h 1 - 1) f, T)) := by
  obtain ⟨h0, h1, h2, h3⟩ := id hh
  rw [zm_28]
  simp (disch := first | assumption | omega | trivial) only [if_pos, if_neg, if_true, if_false, true_and, and_true, not_true_eq_false, not_false_eq_true, false_and, and_false, Option.bind_some, zq_t, zq_f, zq0, zq1, zw_id, h1, zwr, zu_ne, zu_eq, zx_exchange hh (show 0 ≤ I h 1 - 1 ∧ I h 1 - 1 < 16 by omega) hr hf]
theorem zx_doAgain (hh : zs_hi S R h) (hk : 0 ≤ I h 1 ∧ I h 1 < 16) (hu : 0 < I h 2 ∧ I h 2 ≤ 16) (hr : ¬ R (h + 1) (I h 1) = 0) (hf : (S f).1 = 1) : zG (d + 2) 29 [.inr (.inr h), .inr (.inr f)] (S, I, R, T) = some (R (h + 1) (I h 1), (S, zi_up (zi_up I h 1 (I h 1 + 1)) h 2 (I h 2 - 1), zi_up R (h + 1) (I h 1) f, T)) := by
  obtain ⟨h0, h1, h2, h3⟩ := id hh
  rw [zm_29]
  simp (disch := first | assumption | omega | trivial) only [if_pos, if_neg, if_true, if_false, true_and, and_true, not_true_eq_false, not_false_eq_true, false_and, and_false, Option.bind_some, zq_t, zq_f, zq0, zq1, zw_id, h1, zwr, zu_ne, zu_eq, zx_exchange hh hk hr hf]
def zh_rot (R : zI) (h k : Int) : zI := fun q j => if q = h + 1 ∧ 0 ≤ j ∧ j < k then R q (j + 1) else if q = h + 1 ∧ j = k then R q 0 else R q j
theorem zh_rot_at {q j : Int} : zh_rot R h k q j = if q = h + 1 ∧ 0 ≤ j ∧ j < k then R q (j + 1) else if q = h + 1 ∧ j = k then R q 0 else R q j := rfl
theorem zr_memR {t : zT} {G : Nat → List zV → zM → zR} {w pc : Nat} {L : zL} {R' : zI} {r : zR} (h : R = R') (h2 : zi_run t G w pc L [] (S, I, R', T) = r) : zi_run t G w pc L [] (S, I, R, T) = r := by
  rw [h]; exact h2
theorem zx_dropOldest (hh : zs_hi S R h) (hk : I h 1 = 16) (hf : ∀ k, 0 ≤ k → k < 16 → (S (R (h + 1) k)).1 = 1) : zG (d + 1) 31 [.inr (.inr h)] (S, I, R, T) = some (0, (S, zi_up I h 1 15, zh_rot R h 15, T)) := by
  obtain ⟨h0, h1, h2, h3⟩ := id hh
  rw [zm_31]
  have key : ∀ (w : Nat) (k : Int), 0 ≤ k → k ≤ 15 → (15 - k).toNat < w → zi_run zt_31 (zG d) w 2 [some (.inr (.inr h)), some (.inl k), none] [] (S, I, zh_rot R h k, T) = some (0, (S, zi_up I h 1 15, zh_rot R h 15, T)) := by
    intro w
    induction w with
    | zero => intro k _ _ q; omega
    | succ w ih =>
      intro k k1 k2 k3
      have e1 : zh_rot R h k h 0 = h + 1 := by rw [zh_rot_at, if_neg (by omega), if_neg (by omega), h2]
      rw [zk_31_2]
      by_cases hk' : k < 15
      · have e2 : zh_rot R h k (h + 1) k = R (h + 1) 0 := by rw [zh_rot_at, if_neg (by omega), if_pos (by omega)]
        have e3 : zh_rot R h k (h + 1) (k + 1) = R (h + 1) (k + 1) := by rw [zh_rot_at, if_neg (by omega), if_neg (by omega)]
        have f1 := hf (k + 1) (by omega) (by omega)
        have f2 := hf 0 (by omega) (by omega)
        simp (disch := first | assumption | omega | trivial) only [if_pos, if_neg, if_true, if_false, true_and, and_true, not_true_eq_false, not_false_eq_true, false_and, and_false, Option.bind_some, zq_t, zq_f, zq0, zq1, zw_id, h1, e1, e2, e3, h3, f1, f2, zwq, zu_ne]
        exact zr_memR (by (funext q j; simp only [zh_rot, zi_up]; (repeat' split) <;> first | rfl | (exfalso; omega) | exact zc (by omega) (by omega) | omega)) (ih (k + 1) (by omega) (by omega) (by omega))
      · obtain rfl : k = 15 := by omega
        simp (disch := first | assumption | omega | trivial) only [if_pos, if_neg, if_true, if_false, true_and, and_true, not_true_eq_false, not_false_eq_true, false_and, and_false, Option.bind_some, zq_t, zq_f, zq0, zq1, zw_id, h1, e1, h3, zwr, hk]
        rfl
  exact zr_memR (by (funext q j; simp only [zh_rot, zi_up]; (repeat' split) <;> first | rfl | (exfalso; omega) | exact zc (by omega) (by omega) | omega)) (key 1019999 0 (by omega) (by omega) (by omega))
end ZFrm
