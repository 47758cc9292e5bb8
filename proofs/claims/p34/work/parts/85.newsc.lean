/-! a new screen -/
section ZNk
variable {d : Nat} {S S' : zS} {I I' R R' : zI} {a : Int} {t : Nat}
theorem zn_ll_congr {b : Int} (h : zs_ll S R b) (s : ∀ q, b ≤ q → q < b + 9 → S' q = S q) (r : R' b = R b) : zs_ll S' R' b := by
  unfold zs_ll at *
  rw [s b (by omega) (by omega), s (b + 1) (by omega) (by omega), s (b + 2) (by omega) (by omega), s (b + 3) (by omega) (by omega), s (b + 4) (by omega) (by omega), s (b + 5) (by omega) (by omega), s (b + 6) (by omega) (by omega), s (b + 7) (by omega) (by omega), s (b + 8) (by omega) (by omega), r]
  exact h
def zn_siv (S : zS) (R : zI) (a k : Int) : Prop := ((S a).1 = 6 ∧ S (a + 1) = (16, 12) ∧ R a 0 = a + 1) ∧ ∀ j, 0 ≤ j → j < k → R (a + 1) j = a + 11 + 9 * j ∧ zs_ll S R (a + 11 + 9 * j)
theorem zn_sloop (ha : 0 < a) : ∀ (u : Nat) (k : Int) (w : Nat) (t : Nat) (S : zS) (I R : zI), (u : Int) + k = 12 → 0 ≤ k → u < w → zn_siv S R a k → ∃ S' I' R', zi_run zt_76 (zG (d + 3)) w 26 [some (.inr (.inr a)), some (.inl k)] [] (S, I, R, (a + 11 + 9 * k, t)) = some (0, (S', I', R', (a + 119, t + 340 * u))) ∧ zn_siv S' R' a 12 ∧ ∀ q, q < a → S' q = S q ∧ I' q = I q ∧ R' q = R q := by
  intro u
  induction u with
  | zero =>
    intro k w t S I R k1 k2 k3 hv
    obtain ⟨w, rfl⟩ : ∃ w', w = w' + 1 := ⟨w - 1, by omega⟩
    obtain rfl : k = 12 := by omega
    obtain ⟨⟨v1, v2, v3⟩, v6⟩ := id hv
    refine ⟨S, I, R, ?_, hv, fun q _ => ⟨rfl, rfl, rfl⟩⟩
    have e : a + 11 + 9 * 12 = a + 119 := by omega
    have et : t + 340 * 0 = t := by omega
    rw [e, et, zk_76_26]
    ((try simp only [zbd_conv]); simp (disch := first | assumption | omega | trivial) only [↓reduceIte, zbd_some, eq_self, Int.reduceEq, Int.reduceLT, Int.reduceLE, and_self, or_true, true_or, or_false, false_or, if_pos, if_neg, if_true, if_false, true_and, and_true, not_true_eq_false, not_false_eq_true, false_and, and_false, Option.bind_some, zq_t, zq_f, zq0, zq1, zw_id, v1, v2, v3])
  | succ u ih =>
    intro k w t S I R k1 k2 k3 hv
    obtain ⟨w, rfl⟩ : ∃ w', w = w' + 1 := ⟨w - 1, by omega⟩
    obtain ⟨⟨v1, v2, v3⟩, v6⟩ := id hv
    obtain ⟨b, hb⟩ : ∃ b, a + 11 + 9 * k = b := ⟨_, rfl⟩
    obtain ⟨S1, I1, R1, r1, l1, l5⟩ := zn_LL (d := d + 1) (S := zn S b 4 0) (I := zn0 I b) (R := zn0 R b) (a := b) (t := t + 11) (by rw [zn_eq rfl]) (by omega)
    have k1' : (zn S b 4 0 b).1 = 4 := by rw [zn_eq rfl]
    have sq : ∀ q, q < b → S1 q = S q := fun q hq => by rw [(l5 q hq).1, zn_ne (by omega)]
    have iq : ∀ q, q < b → I1 q = I q := fun q hq => by rw [(l5 q hq).2.1, zn0_ne (by omega)]
    have rq : ∀ q, q < b → R1 q = R q := fun q hq => by rw [(l5 q hq).2.2, zn0_ne (by omega)]
    have s1b : (S1 b).1 = 4 := l1.2.1
    have s1a : S1 (a + 1) = (16, 12) := by rw [sq _ (by omega), v2]
    obtain ⟨S', I', R', q1, q2, q3⟩ := ih (k + 1) w (t + 11 + 329) S1 I1 (zi_up R1 (a + 1) k b) (by omega) (by omega) (by omega) ⟨⟨by rw [sq _ (by omega)]; exact v1, s1a, by rw [zu_ne (by omega), rq _ (by omega)]; exact v3⟩, fun j j1 j2 => by
      by_cases g : j = k
      · rw [g, zu_eq ⟨rfl, rfl⟩, hb]
        exact ⟨rfl, zn_ll_congr l1 (fun q _ _ => rfl) (zu_off (by omega))⟩
      · obtain ⟨e1, e2⟩ := v6 j j1 (by omega)
        refine ⟨by rw [zu_ne (by omega), rq _ (by omega)]; exact e1, zn_ll_congr e2 (fun q q1 q2 => sq q (by omega)) (by rw [zu_off (by omega), rq _ (by omega)])⟩⟩
    refine ⟨S', I', R', ?_, q2, fun q hq => ?_⟩
    · rw [show a + 11 + 9 * (k + 1) = b + 9 by omega, show t + 11 + 329 + 340 * u = t + 340 * (u + 1) by omega] at q1
      rw [hb, ← q1, zk_76_26]
      ((try simp only [zbd_conv]); simp (disch := first | assumption | omega | trivial) only [↓reduceIte, zbd_some, eq_self, Int.reduceEq, Int.reduceLT, Int.reduceLE, and_self, or_true, true_or, or_false, false_or, if_pos, if_neg, if_true, if_false, true_and, and_true, not_true_eq_false, not_false_eq_true, false_and, and_false, Option.bind_some, zq_t, zq_f, zq0, zq1, zw_id, v1, v2, v3, zn_new, k1', r1, s1a, s1b, zwq])
    · obtain ⟨c1, c2, c3⟩ := q3 q hq
      exact ⟨by rw [c1, sq q (by omega)], by rw [c2, iq q (by omega)], by rw [c3, zu_off (by omega), rq q (by omega)]⟩
end ZNk
