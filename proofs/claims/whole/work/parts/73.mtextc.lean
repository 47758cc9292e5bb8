/-! the reference: the draft is made, and becomes the page -/
section ZMv2
variable {d : Nat} {S : zS} {I J K R : zI} {T : Int × Nat} {M n v l f c k x y z r i p m : Int} {P Q D : Int → Int}
theorem zy_textA (hm : zs_mo S R M) : ∃ I1 w, zG (d + 6) 172 [.inr (.inr M)] (S, I, R, T) = zi_run zt_172 (zG (d + 5)) w 46 [some (.inr (.inr M)), some (.inl 0), none] [] (S, I1, R, T) ∧ 18000 < w ∧ (∀ x, x ≠ M → x ≠ M + 2 → I1 x = I x) ∧ (∀ j, j ≠ 13 → j ≠ 15 → j ≠ 16 → I1 M j = I M j) ∧ I1 M 13 = 0 ∧ zv_tm I1 M zt_zero := by
  have h1 := zmo_1 hm
  obtain ⟨Z, hZ⟩ : ∃ Z, Z = zt_row I (M + 2) (fun j => if 0 ≤ j ∧ j < 520 then 0 else I (M + 2) j) := ⟨_, rfl⟩
  obtain ⟨I1, hI1⟩ : ∃ I1, I1 = zi_up (zi_up (zi_up (zi_up Z (M + 2) 0 1) M 15 0) M 16 0) M 13 0 := ⟨_, rfl⟩
  have key : ∀ (u : Nat) (k : Int) (w' : Nat), (u : Int) + k = 520 → 0 ≤ k → zi_run zt_172 (zG (d + 5)) (w' + u + 1) 2 [some (.inr (.inr M)), some (.inl k), none] [] (S, zt_row I (M + 2) (fun j => if 0 ≤ j ∧ j < k then 0 else I (M + 2) j), R, T) = zi_run zt_172 (zG (d + 5)) w' 46 [some (.inr (.inr M)), some (.inl 0), none] [] (S, I1, R, T) := by
    intro u
    induction u with
    | zero =>
      intro k w' k1 k2
      obtain rfl : k = 520 := by omega
      rw [← hZ, hI1, Nat.add_zero, zk_172_2]
      ((try simp only [zbd_conv]); simp (disch := first | assumption | omega | trivial) only [↓reduceIte, zbd_some, eq_self, Int.reduceEq, Int.reduceLT, Int.reduceLE, and_self, or_true, true_or, or_false, false_or, if_pos, if_neg, if_true, if_false, true_and, and_true, not_true_eq_false, not_false_eq_true, false_and, and_false, Option.bind_some, zq_t, zq_f, zq0, zq1, zw_id, h1, zmo_r1 hm, zmo_s2 hm, zwr])
    | succ u ih =>
      intro k w' k1 k2
      rw [show w' + (u + 1) + 1 = (w' + u + 1) + 1 by omega, zk_172_2]
      ((try simp only [zbd_conv]); simp (disch := first | assumption | omega | trivial) only [↓reduceIte, zbd_some, eq_self, Int.reduceEq, Int.reduceLT, Int.reduceLE, and_self, or_true, true_or, or_false, false_or, if_pos, if_neg, if_true, if_false, true_and, and_true, not_true_eq_false, not_false_eq_true, false_and, and_false, Option.bind_some, zq_t, zq_f, zq0, zq1, zw_id, h1, zmo_r1 hm, zmo_s2 hm, zwr, zt_row_up])
      refine zr_mem (congrArg (zt_row I (M + 2)) ?_) (ih (k + 1) w' (by omega) (by omega))
      funext j
      rw [zt_up_at]
      by_cases g1 : j = k
      · rw [if_pos g1, if_pos (by omega)]
      · rw [if_neg g1]
        by_cases g2 : 0 ≤ j ∧ j < k
        · rw [if_pos g2, if_pos (by omega)]
        · rw [if_neg g2, if_neg (by omega)]
  refine ⟨I1, 19478, ?_, by omega, fun x x1 x2 => ?_, fun j j1 j2 j3 => ?_, ?_, ?_, ?_, ?_, fun j j1 j2 => ?_⟩
  · rw [zm_172]
    have k0 := key 520 0 19478 (by omega) (by omega)
    rw [show 19478 + 520 + 1 = 19999 by omega] at k0
    show zi_run _ _ _ _ _ _ _ = _
    refine zr_mem ?_ k0
    refine Eq.trans zt_row_self.symm (congrArg (zt_row I (M + 2)) ?_)
    funext j
    rw [if_neg (by omega)]
  · rw [hI1, zu_off x1, zu_off x1, zu_off x1, zu_off x2, hZ, zt_row_off x2]
  · rw [hI1, zu_ne (by omega), zu_ne (by omega), zu_ne (by omega), zu_off (by omega), hZ, zt_row_off (by omega)]
  · rw [hI1, zu_eq ⟨rfl, rfl⟩]
  · intro j j1 j2
    rw [hI1, zu_off (by omega), zu_off (by omega), zu_off (by omega), zu_row, hZ, zt_row_eq, zt_up_at]
    show _ = if j = 0 then 1 else 0
    by_cases g : j = 0
    · rw [if_pos g, if_pos g]
    · rw [if_neg g, if_neg g, if_pos ⟨j1, j2⟩]
  · rw [hI1, zu_ne (by omega), zu_ne (by omega), zu_eq ⟨rfl, rfl⟩]; rfl
  · rw [hI1, zu_ne (by omega), zu_eq ⟨rfl, rfl⟩]; rfl
  · change j < 0 at j2; omega
theorem zy_textC (hm : zs_mo S R M) (h13 : I M 13 = 0) {w : Nat} (hw : 600 < w) : ∃ K, zi_run zt_172 (zG (d + 5)) w 113 [some (.inr (.inr M)), some (.inl p), none] [] (S, I, R, T) = some (I (M + 2) 0, (S, K, R, T)) ∧ (∀ x, x ≠ M → x ≠ M + 1 → x ≠ M + 12 → K x = I x) ∧ (∀ j, j ≠ 4 → j ≠ 5 → j ≠ 10 → j ≠ 12 → K M j = I M j) ∧ (K M 4 = 0 ∧ K M 5 = 0 ∧ K M 10 = 0 ∧ K M 12 = 0) ∧ (∀ k, 0 ≤ k → k < 2 → K (M + 12) k = 0) ∧ zt_eq (K (M + 1)) (I (M + 2)) := by
  have h1 := zmo_1 hm
  have M0 := hm.1.1
  obtain ⟨A, hA⟩ : ∃ A, A = zi_up I M 12 0 := ⟨_, rfl⟩
  have Aq : ∀ x, x ≠ M → A x = I x := fun x hx => by rw [hA, zu_off hx]
  obtain ⟨Z, hZ⟩ : ∃ Z, Z = zt_row A (M + 1) (fun j => if 0 ≤ j ∧ j < 520 then I (M + 2) j else A (M + 1) j) := ⟨_, rfl⟩
  obtain ⟨K, hK⟩ : ∃ K, K = zi_up (zi_up (zi_up (zi_up (zi_up Z M 10 0) M 4 0) M 5 0) (M + 12) 0 0) (M + 12) 1 0 := ⟨_, rfl⟩
  have ZP : Z (M + 1) 0 = I (M + 2) 0 := by rw [hZ, zt_row_eq, if_pos (by omega)]
  have KP0 : K (M + 1) 0 = I (M + 2) 0 := by rw [hK, zu_off (by omega), zu_off (by omega), zu_off (by omega), zu_off (by omega), zu_off (by omega), ZP]
  have key : ∀ (u : Nat) (k : Int) (w' : Nat), (u : Int) + k = 520 → 0 ≤ k → u < w' → zi_run zt_172 (zG (d + 5)) w' 132 [some (.inr (.inr M)), none, some (.inl k)] [] (S, zt_row A (M + 1) (fun j => if 0 ≤ j ∧ j < k then I (M + 2) j else A (M + 1) j), R, T) = some (I (M + 2) 0, (S, K, R, T)) := by
    intro u
    induction u with
    | zero =>
      intro k w' k1 k2 k3
      obtain ⟨w', rfl⟩ : ∃ w'', w' = w'' + 1 := ⟨w' - 1, by omega⟩
      obtain rfl : k = 520 := by omega
      rw [← hZ, zk_172_132]
      ((try simp only [zbd_conv]); simp (disch := first | assumption | omega | trivial) only [↓reduceIte, zbd_some, eq_self, Int.reduceEq, Int.reduceLT, Int.reduceLE, and_self, or_true, true_or, or_false, false_or, if_pos, if_neg, if_true, if_false, true_and, and_true, not_true_eq_false, not_false_eq_true, false_and, and_false, Option.bind_some, zq_t, zq_f, zq0, zq1, zw_id, h1, zmo_r0 hm, zmo_s1 hm, zmo_r24 hm, zmo_s12 hm, zwr, ← hK, KP0])
    | succ u ih =>
      intro k w' k1 k2 k3
      obtain ⟨w', rfl⟩ : ∃ w'', w' = w'' + 1 := ⟨w' - 1, by omega⟩
      have rd : zt_row A (M + 1) (fun j => if 0 ≤ j ∧ j < k then I (M + 2) j else A (M + 1) j) (M + 2) = I (M + 2) := by rw [zt_row_off (by omega), Aq _ (by omega)]
      rw [zk_172_132]
      ((try simp only [zbd_conv]); simp (disch := first | assumption | omega | trivial) only [↓reduceIte, zbd_some, eq_self, Int.reduceEq, Int.reduceLT, Int.reduceLE, and_self, or_true, true_or, or_false, false_or, if_pos, if_neg, if_true, if_false, true_and, and_true, not_true_eq_false, not_false_eq_true, false_and, and_false, Option.bind_some, zq_t, zq_f, zq0, zq1, zw_id, h1, zmo_r0 hm, zmo_s1 hm, zmo_r1 hm, zmo_s2 hm, rd, zwr, zt_row_up])
      refine zr_mem (congrArg (zt_row A (M + 1)) ?_) (ih (k + 1) w' (by omega) (by omega) (by omega))
      funext j
      rw [zt_up_at]
      by_cases g1 : j = k
      · rw [if_pos g1, if_pos (by omega), g1]
      · rw [if_neg g1]
        by_cases g2 : 0 ≤ j ∧ j < k
        · rw [if_pos g2, if_pos (by omega)]
        · rw [if_neg g2, if_neg (by omega)]
  refine ⟨K, ?_, fun x x1 x2 x3 => ?_, fun j j1 j2 j3 j4 => ?_, ⟨?_, ?_, ?_, ?_⟩, fun k k1 k2 => ?_, fun j j1 j2 => ?_⟩
  · obtain ⟨w, rfl⟩ : ∃ w', w = w' + 1 := ⟨w - 1, by omega⟩
    have a13 : zi_up I M 12 0 M 13 = 0 := by rw [zu_ne (by omega), h13]
    rw [zk_172_113]
    ((try simp only [zbd_conv]); simp (disch := first | assumption | omega | trivial) only [↓reduceIte, zbd_some, eq_self, Int.reduceEq, Int.reduceLT, Int.reduceLE, and_self, or_true, true_or, or_false, false_or, if_pos, if_neg, if_true, if_false, true_and, and_true, not_true_eq_false, not_false_eq_true, false_and, and_false, Option.bind_some, zq_t, zq_f, zq0, zq1, zw_id, h1, zwr, a13])
    rw [← hA]
    refine zr_mem ?_ (key 520 0 w (by omega) (by omega) (by omega))
    refine Eq.trans zt_row_self.symm (congrArg (zt_row A (M + 1)) ?_)
    funext j
    rw [if_neg (by omega)]
  · rw [hK, zu_off x3, zu_off x3, zu_off x1, zu_off x1, zu_off x1, hZ, zt_row_off x2, Aq x x1]
  · rw [hK, zu_off (by omega), zu_off (by omega), zu_ne (by omega), zu_ne (by omega), zu_ne (by omega), hZ, zt_row_off (by omega), hA, zu_ne (by omega)]
  · rw [hK, zu_off (by omega), zu_off (by omega), zu_ne (by omega), zu_eq ⟨rfl, rfl⟩]
  · rw [hK, zu_off (by omega), zu_off (by omega), zu_eq ⟨rfl, rfl⟩]
  · rw [hK, zu_off (by omega), zu_off (by omega), zu_ne (by omega), zu_ne (by omega), zu_eq ⟨rfl, rfl⟩]
  · rw [hK, zu_off (by omega), zu_off (by omega), zu_ne (by omega), zu_ne (by omega), zu_ne (by omega), hZ, zt_row_off (by omega), hA, zu_eq ⟨rfl, rfl⟩]
  · rw [hK]
    rcases (show k = 0 ∨ k = 1 by omega) with q | q <;> subst q
    · rw [zu_ne (by omega), zu_eq ⟨rfl, rfl⟩]
    · rw [zu_eq ⟨rfl, rfl⟩]
  · rw [hK, zu_off (by omega), zu_off (by omega), zu_off (by omega), zu_off (by omega), zu_off (by omega), hZ, zt_row_eq, if_pos ⟨j1, j2⟩]
theorem zy_textF (hm : zs_mo S R M) (h13 : 0 < I M 13) (hp : 0 ≤ p ∧ p ≤ 400) {w : Nat} (hw : 600 < w) : zi_run zt_172 (zG (d + 5)) w 113 [some (.inr (.inr M)), some (.inl p), none] [] (S, I, R, T) = some (-10 - p, (S, zi_up I M 12 0, R, T)) := by
  have h1 := zmo_1 hm
  obtain ⟨w, rfl⟩ : ∃ w', w = w' + 1 := ⟨w - 1, by omega⟩
  have a13 : zi_up I M 12 0 M 13 = I M 13 := zu_ne (by omega)
  rw [zk_172_113]
  ((try simp only [zbd_conv]); simp (disch := first | assumption | omega | trivial) only [↓reduceIte, zbd_some, eq_self, Int.reduceEq, Int.reduceLT, Int.reduceLE, and_self, or_true, true_or, or_false, false_or, if_pos, if_neg, if_true, if_false, true_and, and_true, not_true_eq_false, not_false_eq_true, false_and, and_false, Option.bind_some, zq_t, zq_f, zq0, zq1, zw_id, h1, zwr, a13])
end ZMv2
