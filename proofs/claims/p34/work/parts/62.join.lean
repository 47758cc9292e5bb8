/-! two lines become one -/
section ZJj
variable {d : Nat} {S : zS} {I J J1 J2 K K0 K1 R R' F L : zI} {T : Int × Nat} {X M n v l f c k x y z r i p w t m e b g len N o : Int} {P Q Q2 s : Int → Int}
def zt_jn1 (P : Int → Int) (l n k : Int) : Int → Int := fun j => if 13 + 40 * l + n ≤ j ∧ j < 13 + 40 * l + n + k then P (j - n + 40) else P j
theorem zt_jn1_at {j : Int} : zt_jn1 P l n k j = if 13 + 40 * l + n ≤ j ∧ j < 13 + 40 * l + n + k then P (j - n + 40) else P j := rfl
def zt_jn2 (P : Int → Int) (l k : Int) : Int → Int := fun j => if 2 + l ≤ j ∧ j < 1 + k then P (j + 1) else if 53 + 40 * l ≤ j ∧ j < 13 + 40 * k then P (j + 40) else P j
theorem zt_jn2_at {j : Int} : zt_jn2 P l k j = if 2 + l ≤ j ∧ j < 1 + k then P (j + 1) else if 53 + 40 * l ≤ j ∧ j < 13 + 40 * k then P (j + 40) else P j := rfl
def zt_jn (P : Int → Int) (l n o m : Int) : Int → Int := zt_up (zt_jn2 (zt_up (zt_jn1 P l n o) (1 + l) (n + o)) l (m - 1)) 0 (m - 1)
theorem zq_jn (hl : 0 ≤ l ∧ l + 1 < m ∧ m ≤ 12) (hn : 0 ≤ n ∧ 0 ≤ o ∧ n + o ≤ 40) (hQ : Q = zt_jn P l n o m) : Q 0 = m - 1 ∧ (∀ r, 0 ≤ r → r < m - 1 → Q (1 + r) = if r < l then P (1 + r) else if r = l then n + o else P (1 + (r + 1))) ∧ (∀ r k, 0 ≤ r → r < m - 1 → 0 ≤ k → k < 40 → (r = l → k < n + o) → Q (13 + 40 * r + k) = if r < l ∨ (r = l ∧ k < n) then P (13 + 40 * r + k) else if r = l then P (13 + 40 * (l + 1) + (k - n)) else P (13 + 40 * (r + 1) + k)) ∧ ∀ j, 493 ≤ j → Q j = P j := by
  subst hQ
  refine ⟨?_, fun r r1 r2 => ?_, fun r k r1 r2 k1 k2 k3 => ?_, fun j hj => ?_⟩
  · unfold zt_jn
    rw [zt_up_eq rfl]
  · unfold zt_jn
    by_cases a1 : r < l
    · rw [if_pos a1]
      simp (disch := first | assumption | omega | trivial) only [if_pos, if_neg, if_true, if_false, true_and, and_true, not_true_eq_false, not_false_eq_true, false_and, and_false, Option.bind_some, zq_t, zq_f, zq0, zq1, zw_id, zt_up_ne, zt_jn2_at, zt_jn1_at]
    · by_cases a2 : r = l
      · rw [if_neg a1, if_pos a2]
        rw [zt_up_ne (by omega), zt_jn2_at, if_neg (by omega), if_neg (by omega), zt_up_eq (by omega)]
      · rw [if_neg a1, if_neg a2]
        simp (disch := first | assumption | omega | trivial) only [if_pos, if_neg, if_true, if_false, true_and, and_true, not_true_eq_false, not_false_eq_true, false_and, and_false, Option.bind_some, zq_t, zq_f, zq0, zq1, zw_id, zt_up_ne, zt_jn2_at, zt_jn1_at]
        congr 1; omega
  · unfold zt_jn
    by_cases a1 : r < l ∨ (r = l ∧ k < n)
    · rw [if_pos a1]
      simp (disch := first | assumption | omega | trivial) only [if_pos, if_neg, if_true, if_false, true_and, and_true, not_true_eq_false, not_false_eq_true, false_and, and_false, Option.bind_some, zq_t, zq_f, zq0, zq1, zw_id, zt_up_ne, zt_jn2_at, zt_jn1_at]
    · by_cases a2 : r = l
      · have := k3 a2
        rw [if_neg a1, if_pos a2]
        simp (disch := first | assumption | omega | trivial) only [if_pos, if_neg, if_true, if_false, true_and, and_true, not_true_eq_false, not_false_eq_true, false_and, and_false, Option.bind_some, zq_t, zq_f, zq0, zq1, zw_id, zt_up_ne, zt_jn2_at, zt_jn1_at]
        congr 1; omega
      · rw [if_neg a1, if_neg a2]
        simp (disch := first | assumption | omega | trivial) only [if_pos, if_neg, if_true, if_false, true_and, and_true, not_true_eq_false, not_false_eq_true, false_and, and_false, Option.bind_some, zq_t, zq_f, zq0, zq1, zw_id, zt_up_ne, zt_jn2_at, zt_jn1_at]
        congr 1; omega
  · unfold zt_jn
    simp (disch := first | assumption | omega | trivial) only [if_pos, if_neg, if_true, if_false, true_and, and_true, not_true_eq_false, not_false_eq_true, false_and, and_false, Option.bind_some, zq_t, zq_f, zq0, zq1, zw_id, zt_up_ne, zt_jn2_at, zt_jn1_at]
theorem zw_jn (hw : zw_page P) (hm0 : P 0 = m) (hl : 0 ≤ l ∧ l + 1 < m ∧ m ≤ 12) (hn : 0 ≤ n ∧ 0 ≤ o ∧ n + o ≤ 40) (hQ2 : Q2 = zt_jn P l n o m) {q : Int × zI} (hr : zj_row Q2 Q q) (hp : 0 ≤ q.1 ∧ q.1 ≤ 8) (hg : zj_gd F l m N N q) : zw_page (zt_up (zt_up Q 518 l) 519 n) := by
  obtain ⟨q0, q1, q2, q3⟩ := zq_jn hl hn hQ2
  obtain ⟨r1, r2, r3⟩ := hr
  obtain ⟨g1, g2, -⟩ := hg
  have e : ∀ j, j < 518 → zt_up (zt_up Q 518 l) 519 n j = Q j := fun j hj => by rw [zt_up_ne (by omega), zt_up_ne (by omega)]
  have e0 : zt_up (zt_up Q 518 l) 519 n 0 = m - 1 := by rw [e _ (by omega), r3 _ (by omega), q0]
  have eN : zt_up (zt_up Q 518 l) 519 n 493 = q.1 := by rw [e _ (by omega), r1]
  have e8 : zt_up (zt_up Q 518 l) 519 n 518 = l := by rw [zt_up_ne (by omega), zt_up_eq rfl]
  have e9 : zt_up (zt_up Q 518 l) 519 n 519 = n := zt_up_eq rfl
  have el : ∀ r, 0 ≤ r → r < m - 1 → zt_up (zt_up Q 518 l) 519 n (1 + r) = if r < l then P (1 + r) else if r = l then n + o else P (1 + (r + 1)) := fun r h1 h2 => by
    rw [e _ (by omega), r3 _ (by omega), q1 r h1 h2]
  obtain ⟨w1, w2, -⟩ := hw
  rw [hm0] at w2
  refine ⟨by omega, fun r h1 h2 => ?_, by omega, fun k k1 k2 => ?_, fun j k j1 j2 j3 => ?_, by omega, by omega, ?_⟩
  · rw [e0] at h2
    rw [el r h1 h2]
    by_cases a1 : r < l
    · rw [if_pos a1]; exact w2 r h1 (by omega)
    · by_cases a2 : r = l
      · rw [if_neg a1, if_pos a2]; omega
      · rw [if_neg a1, if_neg a2]; exact w2 (r + 1) (by omega) (by omega)
  · rw [eN] at k2
    obtain ⟨u1, u2, u3⟩ := r2 k k1 k2
    have b := g1 k k1 k2
    rw [e (494 + 3 * k) (by omega), e (495 + 3 * k) (by omega), e (496 + 3 * k) (by omega), u1, u2, u3, e0]
    exact b
  · rw [eN] at j3
    obtain ⟨u1, u2, -⟩ := r2 j j1 (by omega)
    obtain ⟨u1', u2', -⟩ := r2 k (by omega) j3
    rw [e (494 + 3 * j) (by omega), e (495 + 3 * j) (by omega), e (494 + 3 * k) (by omega), e (495 + 3 * k) (by omega), u1, u2, u1', u2']
    exact g2 j k j1 j2 j3
  · rw [e9, e8, el l (by omega) (by omega), if_neg (by omega), if_pos rfl]; omega
theorem zv_jn (h : zv_rep I f P) (hw : zw_page P) (hm0 : P 0 = m) (hn0 : P (1 + l) = n) (ho0 : P (1 + (l + 1)) = o) (hl : 0 ≤ l ∧ l + 1 < m ∧ m ≤ 12) (hn : 0 ≤ n ∧ 0 ≤ o ∧ n + o ≤ 40) (hQ2 : Q2 = zt_jn P l n o m) {q : Int × zI} (hr : zj_row Q2 Q q) (hp : 0 ≤ q.1 ∧ q.1 ≤ 8) {Jd Jf : zI} (hd : zv_join I Jd (f + 1) l m) (hi : zj_inv Jd Jf F (f + 4) N q) : zv_rep (zi_up (zi_up Jf f 2 l) f 3 n) f (zt_up (zt_up Q 518 l) 519 n) := by
  obtain ⟨q0, q1, q2, q3⟩ := zq_jn hl hn hQ2
  obtain ⟨r1, r2, r3⟩ := hr
  obtain ⟨w1, w2, -⟩ := hw
  obtain ⟨v1, v2, v3, -⟩ := h
  obtain ⟨d1, d2, d3, d4⟩ := hd
  obtain ⟨i1, i2, i3, -⟩ := hi
  rw [hm0] at w1 w2 v2 v3
  have e2 : f + 1 + 1 = f + 2 := by omega
  have e3 : f + 1 + 2 = f + 3 := by omega
  rw [e2] at d3 d4
  rw [e3] at d4
  have e : ∀ j, j < 518 → zt_up (zt_up Q 518 l) 519 n j = Q j := fun j hj => by rw [zt_up_ne (by omega), zt_up_ne (by omega)]
  have jf : ∀ x, x < f + 4 → Jf x = Jd x := fun x hx => i1 x (by omega)
  have vl : I (f + 2) l = n := by rw [v2 l (by omega) (by omega), hn0]
  have vo : I (f + 2) (l + 1) = o := by rw [v2 (l + 1) (by omega) (by omega), ho0]
  have lens : ∀ r, 0 ≤ r → r < m - 1 → Jd (f + 2) r = zt_up (zt_up Q 518 l) 519 n (1 + r) := fun r h1 h2 => by
    rw [d3 r h1 h2, e _ (by omega), r3 _ (by omega), q1 r h1 h2]
    by_cases a1 : r < l
    · rw [if_pos a1, if_pos a1]; exact v2 r h1 (by omega)
    · by_cases a2 : r = l
      · rw [if_neg a1, if_neg a1, if_pos a2, if_pos a2, vl, vo]
      · rw [if_neg a1, if_neg a1, if_neg a2, if_neg a2, v2 (r + 1) (by omega) (by omega)]
  have e0 : zt_up (zt_up Q 518 l) 519 n 0 = m - 1 := by rw [e _ (by omega), r3 _ (by omega), q0]
  refine ⟨?_, fun r h1 h2 => ?_, fun r k h1 h2 k1 k2 => ?_, ?_, fun k k1 k2 => ?_, ?_, ?_⟩
  · rw [zu_off (by omega), zu_off (by omega), jf _ (by omega), d2, e0]
  · rw [e0] at h2
    rw [zu_off (by omega), zu_off (by omega), jf _ (by omega)]
    exact lens r h1 h2
  · rw [e0] at h2
    rw [← lens r h1 h2] at k2
    have k2' := k2
    rw [d3 r h1 h2] at k2'
    have b40 : k < 40 ∧ (r = l → k < n + o) ∧ (r < l → k < P (1 + r)) ∧ (l < r → k < P (1 + (r + 1))) := by
      by_cases a1 : r < l
      · rw [if_pos a1, v2 r h1 (by omega)] at k2'
        have := w2 r h1 (by omega)
        omega
      · by_cases a2 : r = l
        · rw [if_neg a1, if_pos a2, vl, vo] at k2'
          omega
        · rw [if_neg a1, if_neg a2, v2 (r + 1) (by omega) (by omega)] at k2'
          have := w2 (r + 1) (by omega) (by omega)
          omega
    obtain ⟨b1, b2, b3, b4⟩ := b40
    rw [zu_off (by omega), zu_off (by omega), jf _ (by omega), d4 r k h1 h2 k1 k2, e _ (by omega), r3 _ (by omega), q2 r k h1 h2 k1 b1 b2, vl]
    by_cases a1 : r < l ∨ (r = l ∧ k < n)
    · rw [if_pos a1, if_pos a1]
      refine v3 r k h1 (by omega) k1 ?_
      rcases a1 with a1 | a1
      · exact b3 a1
      · rw [a1.1, hn0]; exact a1.2
    · rw [if_neg a1, if_neg a1]
      by_cases a2 : r = l
      · have := b2 a2
        rw [if_pos a2, if_pos a2]
        exact v3 (l + 1) (k - n) (by omega) (by omega) (by omega) (by rw [ho0]; omega)
      · rw [if_neg a2, if_neg a2]
        exact v3 (r + 1) k (by omega) (by omega) k1 (b4 (by omega))
  · rw [zu_off (by omega), zu_off (by omega), i2, e _ (by omega), r1]
  · rw [e _ (by omega), r1] at k2
    obtain ⟨u1, u2, u3⟩ := r2 k k1 k2
    obtain ⟨x1, x2, x3⟩ := i3 k k1 k2
    rw [show f + 4 + 1 = f + 5 by omega] at x1
    rw [show f + 4 + 2 = f + 6 by omega] at x2
    rw [show f + 4 + 3 = f + 7 by omega] at x3
    rw [zu_off (show ¬ f + 5 = f by omega), zu_off (show ¬ f + 5 = f by omega), zu_off (show ¬ f + 6 = f by omega), zu_off (show ¬ f + 6 = f by omega), zu_off (show ¬ f + 7 = f by omega), zu_off (show ¬ f + 7 = f by omega), e (494 + 3 * k) (by omega), e (495 + 3 * k) (by omega), e (496 + 3 * k) (by omega), x1, x2, x3, u1, u2, u3]
    exact ⟨rfl, rfl, rfl⟩
  · rw [zu_ne (by omega), zu_eq ⟨rfl, rfl⟩, zt_up_ne (by omega), zt_up_eq rfl]
  · rw [zu_eq ⟨rfl, rfl⟩, zt_up_eq rfl]
end ZJj
