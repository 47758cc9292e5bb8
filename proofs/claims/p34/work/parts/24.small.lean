/-! the class: settings, sheets, frames -/
def zs_fr (S : zS) (R : zI) (f : Int) : Prop := 0 < f ∧ (S f).1 = 1 ∧ R f 0 = f + 1 ∧ R f 1 = f + 4 ∧ zs_li S R (f + 1) ∧ zs_fo S R (f + 4)
def zs_sh (S : zS) (R : zI) (a : Int) : Prop := 0 < a ∧ (S a).1 = 8 ∧ R a 3 = a + 1 ∧ S (a + 1) = (12, 20)
def zs_se (S : zS) (a : Int) : Prop := 0 < a ∧ (S a).1 = 7
def zr_se (I : zI) (s : Int) : Prop := (4 ≤ I s 0 ∧ I s 0 ≤ 40) ∧ (1 ≤ I s 1 ∧ I s 1 ≤ 8) ∧ (0 ≤ I s 2 ∧ I s 2 ≤ 2) ∧ 0 ≤ I s 3 ∧ I s 3 ≤ 7
theorem zw_rem {x y : Int} (hx : 0 ≤ x ∧ x ≤ 100000) (hy : 0 < y ∧ y ≤ 1000) : zi_rem x y = x % y := by
  have h1 := Int.emod_nonneg x (show y ≠ 0 by omega)
  have h2 := Int.emod_lt_of_pos x hy.1
  have h3 := Int.emod_def x y
  have h4 : 0 ≤ x / y := Int.ediv_nonneg hx.1 (by omega)
  have h5 : x / y ≤ x := Int.ediv_le_self y hx.1
  unfold zi_rem
  rw [Int.tdiv_eq_ediv_of_nonneg hx.1, zw_id (x := x / y) (by omega) (by omega), Int.mul_comm (x / y) y, zw_id (x := y * (x / y)) (by omega) (by omega), zw_id (by omega) (by omega)]
  omega
theorem zr_val {S : zS} {I R : zI} {T : Int × Nat} {v w : Int} (h : v = w) : (some (v, (S, I, R, T)) : zR) = some (w, (S, I, R, T)) := by rw [h]
section ZSm
variable {d : Nat} {S : zS} {I J R : zI} {T : Int × Nat} {a b i n v l f g c c' m k x y s : Int}
theorem zx_tabStop (h : zs_se S s) (hr : zr_se I s) (hc : 0 ≤ c ∧ c ≤ 1000) : zG (d + 1) 87 [.inr (.inr s), .inl c] (S, I, R, T) = some (I s 1 - c % I s 1, (S, I, R, T)) := by
  obtain ⟨h0, h1⟩ := h
  obtain ⟨r0, r1, r2, r3⟩ := hr
  have h1' := Int.emod_nonneg c (show I s 1 ≠ 0 by omega)
  have h2' := Int.emod_lt_of_pos c (show 0 < I s 1 by omega)
  rw [zm_87]
  simp (disch := first | assumption | omega | trivial) only [if_pos, if_neg, if_true, if_false, true_and, and_true, not_true_eq_false, not_false_eq_true, false_and, and_false, Option.bind_some, zq_t, zq_f, zq0, zq1, zw_id, h1, zw_rem]
theorem zx_cellsOf (h : zs_se S s) (hr : zr_se I s) (hc : 0 ≤ y ∧ y ≤ 1000) : zG (d + 2) 88 [.inr (.inr s), .inl c, .inl i, .inl y] (S, I, R, T) = some (zl_ce (I s 0) (I s 1) (I s 2) c i y, (S, I, R, T)) := by
  rw [zm_88]
  unfold zl_ce
  obtain ⟨r0, r1, r2, r3⟩ := id hr
  have h1 := h.2
  have hmx : ∀ u w, zG (d + 1) 1001 [.inl u, .inl w] (S, I, R, T) = some (if u < w then w else u, (S, I, R, T)) := fun u w => rfl
  have hmn : ∀ u w, zG (d + 1) 1002 [.inl u, .inl w] (S, I, R, T) = some (if w < u then w else u, (S, I, R, T)) := fun u w => rfl
  by_cases g1 : 65 ≤ c ∧ c ≤ 90
  · simp (disch := first | assumption | omega | trivial) only [if_pos, if_neg, if_true, if_false, true_and, and_true, not_true_eq_false, not_false_eq_true, false_and, and_false, Option.bind_some, zq_t, zq_f, zq0, zq1, zw_id, zx_isWide, zf_wide]
  · by_cases g2 : c = 126
    · by_cases g3 : i = 0 <;> simp (disch := first | assumption | omega | trivial) only [if_pos, if_neg, if_true, if_false, true_and, and_true, not_true_eq_false, not_false_eq_true, false_and, and_false, Option.bind_some, zq_t, zq_f, zq0, zq1, zw_id, zx_isWide, zf_wide]
    · by_cases g3 : c = 9
      · have h1' := Int.emod_nonneg y (show I s 1 ≠ 0 by omega)
        have h2' := Int.emod_lt_of_pos y (show 0 < I s 1 by omega)
        by_cases g4 : I s 2 = 0
        · simp (disch := first | assumption | omega | trivial) only [if_pos, if_neg, if_true, if_false, true_and, and_true, not_true_eq_false, not_false_eq_true, false_and, and_false, Option.bind_some, zq_t, zq_f, zq0, zq1, zw_id, zx_isWide, zf_wide, zx_tabStop h hr hc, h1]
        · simp (disch := first | assumption | omega | trivial) only [if_pos, if_neg, if_true, if_false, true_and, and_true, not_true_eq_false, not_false_eq_true, false_and, and_false, Option.bind_some, zq_t, zq_f, zq0, zq1, zw_id, zx_isWide, zf_wide, zx_tabStop h hr hc, h1, hmx, hmn]
          by_cases g5 : 0 < I s 0 - y
          · simp (disch := first | assumption | omega | trivial) only [if_pos, if_neg, if_true, if_false, true_and, and_true, not_true_eq_false, not_false_eq_true, false_and, and_false, Option.bind_some, zq_t, zq_f, zq0, zq1, zw_id]
            by_cases g6 : I s 1 - y % I s 1 < I s 0 - y
            · simp (disch := first | assumption | omega | trivial) only [if_pos, if_neg, if_true, if_false, true_and, and_true, not_true_eq_false, not_false_eq_true, false_and, and_false, Option.bind_some, zq_t, zq_f, zq0, zq1, zw_id]
            · by_cases g7 : I s 0 - y < I s 1 - y % I s 1
              · simp (disch := first | assumption | omega | trivial) only [if_pos, if_neg, if_true, if_false, true_and, and_true, not_true_eq_false, not_false_eq_true, false_and, and_false, Option.bind_some, zq_t, zq_f, zq0, zq1, zw_id]
              · simp (disch := first | assumption | omega | trivial) only [if_pos, if_neg, if_true, if_false, true_and, and_true, not_true_eq_false, not_false_eq_true, false_and, and_false, Option.bind_some, zq_t, zq_f, zq0, zq1, zw_id]; exact zr_val (by omega)
          · simp (disch := first | assumption | omega | trivial) only [if_pos, if_neg, if_true, if_false, true_and, and_true, not_true_eq_false, not_false_eq_true, false_and, and_false, Option.bind_some, zq_t, zq_f, zq0, zq1, zw_id]
      · simp (disch := first | assumption | omega | trivial) only [if_pos, if_neg, if_true, if_false, true_and, and_true, not_true_eq_false, not_false_eq_true, false_and, and_false, Option.bind_some, zq_t, zq_f, zq0, zq1, zw_id, zx_isWide, zf_wide]
theorem zx_fits (h : zs_se S s) (hr : zr_se I s) (hy : 0 ≤ y ∧ y ≤ 1000) (hx : -1000 ≤ x ∧ x ≤ 1000) : zG (d + 1) 89 [.inr (.inr s), .inl c, .inl y, .inl x] (S, I, R, T) = some (zq (I s 2 = 0 ∨ (c = 9 ∧ y < I s 0) ∨ (c ≠ 9 ∧ y + x ≤ I s 0)), (S, I, R, T)) := by
  rw [zm_89]
  have h1 := h.2
  by_cases g1 : I s 2 = 0 <;> by_cases g2 : c = 9 <;> by_cases g3 : y < I s 0 <;> by_cases g4 : I s 0 < y + x <;> simp (disch := first | assumption | omega | trivial) only [if_pos, if_neg, if_true, if_false, true_and, and_true, not_true_eq_false, not_false_eq_true, false_and, and_false, Option.bind_some, zq_t, zq_f, zq0, zq1, zw_id, h1]
def zf_allow (w v : Int) : Prop := (w = 0 ∧ 4 ≤ v ∧ v ≤ 40) ∨ (w = 1 ∧ 1 ≤ v ∧ v ≤ 8) ∨ (w = 2 ∧ 0 ≤ v ∧ v ≤ 2) ∨ (w = 3 ∧ 0 ≤ v ∧ v ≤ 7)
theorem zx_allows : zG (d + 1) 84 [.inl x, .inl v] (S, I, R, T) = some (zq (zf_allow x v), (S, I, R, T)) := by
  rw [zm_84]
  unfold zf_allow
  by_cases g0 : x = 0
  · by_cases g1 : v < 4 <;> by_cases g2 : 40 < v <;> first | (exfalso; omega) | simp (disch := first | assumption | omega | trivial) only [if_pos, if_neg, if_true, if_false, true_and, and_true, not_true_eq_false, not_false_eq_true, false_and, and_false, Option.bind_some, zq_t, zq_f, zq0, zq1, zw_id]
  · by_cases g3 : x = 1
    · by_cases g1 : v < 1 <;> by_cases g2 : 8 < v <;> first | (exfalso; omega) | simp (disch := first | assumption | omega | trivial) only [if_pos, if_neg, if_true, if_false, true_and, and_true, not_true_eq_false, not_false_eq_true, false_and, and_false, Option.bind_some, zq_t, zq_f, zq0, zq1, zw_id]
    · by_cases g4 : x = 2
      · by_cases g1 : v < 0 <;> by_cases g2 : 2 < v <;> first | (exfalso; omega) | simp (disch := first | assumption | omega | trivial) only [if_pos, if_neg, if_true, if_false, true_and, and_true, not_true_eq_false, not_false_eq_true, false_and, and_false, Option.bind_some, zq_t, zq_f, zq0, zq1, zw_id]
      · by_cases g5 : x = 3
        · by_cases g1 : v < 0 <;> by_cases g2 : 7 < v <;> first | (exfalso; omega) | simp (disch := first | assumption | omega | trivial) only [if_pos, if_neg, if_true, if_false, true_and, and_true, not_true_eq_false, not_false_eq_true, false_and, and_false, Option.bind_some, zq_t, zq_f, zq0, zq1, zw_id]
        · simp (disch := first | assumption | omega | trivial) only [if_pos, if_neg, if_true, if_false, true_and, and_true, not_true_eq_false, not_false_eq_true, false_and, and_false, Option.bind_some, zq_t, zq_f, zq0, zq1, zw_id]
theorem zx_change (h : zs_se S s) (hx : 0 ≤ x ∧ x ≤ 3) : zG (d + 1) 85 [.inr (.inr s), .inl x, .inl v] (S, I, R, T) = some (I s x, (S, zi_up I s x v, R, T)) := by
  rw [zm_85]
  have h1 := h.2
  rcases (show x = 0 ∨ x = 1 ∨ x = 2 ∨ x = 3 by omega) with g | g | g | g <;> subst g <;> simp (disch := first | assumption | omega | trivial) only [if_pos, if_neg, if_true, if_false, true_and, and_true, not_true_eq_false, not_false_eq_true, false_and, and_false, Option.bind_some, zq_t, zq_f, zq0, zq1, zw_id, h1, zwr]
theorem zx_SecopyFrom (h : zs_se S s) (g : zs_se S b) : zG (d + 1) 86 [.inr (.inr s), .inr (.inr b)] (S, I, R, T) = some (0, (S, zi_up (zi_up (zi_up (zi_up I s 0 (I b 0)) s 1 (I b 1)) s 2 (I b 2)) s 3 (I b 3), R, T)) := by
  rw [zm_86]
  have h1 := h.2
  have g1 := g.2
  simp (disch := first | assumption | omega | trivial) only [if_pos, if_neg, if_true, if_false, true_and, and_true, not_true_eq_false, not_false_eq_true, false_and, and_false, Option.bind_some, zq_t, zq_f, zq0, zq1, zw_id, h1, g1, zwr, zu_ne]
/-! sheets -/
def zf_low (lane v : Int) : Int := if lane = 0 then zi_i2b v else if lane = 1 then zi_i2c v else if lane = 2 then zi_i2s v else v
def zp_ren (I : zI) (a l n k : Int) : zI := fun q j => if q = a ∧ j = 0 then 1 else if q = a ∧ j = 1 then l else if q = a ∧ j = 2 then n else if q = a + 1 ∧ 0 ≤ j ∧ j < k then 0 else I q j
theorem zp_ren_at {q j : Int} : zp_ren I a l n k q j = if q = a ∧ j = 0 then 1 else if q = a ∧ j = 1 then l else if q = a ∧ j = 2 then n else if q = a + 1 ∧ 0 ≤ j ∧ j < k then 0 else I q j := rfl
/-- the first of n cells from a place on that is no sign, or not there -/
def zf_scan (z : Int) (ce : Int → Int) (f n v : Int) : Prop := ∃ i, (0 ≤ i ∧ i ≤ n) ∧ (∀ j, 0 ≤ j → j < i → (0 ≤ f + j ∧ f + j < z) ∧ zf_sign (ce (f + j))) ∧ ((i = n ∧ v = 0) ∨ (i < n ∧ ¬ (0 ≤ f + i ∧ f + i < z) ∧ v = -13) ∨ (i < n ∧ (0 ≤ f + i ∧ f + i < z) ∧ ¬ zf_sign (ce (f + i)) ∧ v = -20 - i))
theorem zf_scan_uniq {z : Int} {ce ce' : Int → Int} {v' : Int} (h : zf_scan z ce f n v) (h' : zf_scan z ce' f n v') (hc : ∀ j, 0 ≤ j → j < z → ce j = ce' j) : v = v' := by
  obtain ⟨i, h1, h2, h3⟩ := h
  obtain ⟨i', g1, g2, g3⟩ := h'
  have hs : ∀ j, (0 ≤ f + j ∧ f + j < z) → (zf_sign (ce (f + j)) ↔ zf_sign (ce' (f + j))) := fun j hj => by rw [hc (f + j) hj.1 hj.2]
  rcases Int.lt_trichotomy i i' with q | q | q
  · exfalso
    obtain ⟨a1, a2⟩ := g2 i h1.1 q
    rcases h3 with h3 | h3 | h3
    · omega
    · exact h3.2.1 a1
    · exact h3.2.2.1 ((hs i a1).mpr a2)
  · subst q
    rcases h3 with h3 | h3 | h3 <;> rcases g3 with g3 | g3 | g3 <;> first | omega | (exfalso; exact h3.2.1 g3.2.1) | (exfalso; exact g3.2.1 h3.2.1)
  · exfalso
    obtain ⟨a1, a2⟩ := h2 i' g1.1 q
    rcases g3 with h3 | h3 | h3
    · omega
    · exact h3.2.1 a1
    · exact h3.2.2.1 ((hs i' a1).mp a2)
theorem zw_over {x : Int} (h1 : 2147483648 ≤ x) (h2 : x < 4294967296) : zi_w x = x - 4294967296 := by
  unfold zi_w
  omega
end ZSm
