/-! pages: what a frame tells, as the numbers of a page -/
noncomputable def zt_if {α : Type} (p : Prop) (A B : α) : α := @ite α p (Classical.propDecidable p) A B
theorem zt_if_t {α : Type} {p : Prop} {A B : α} (h : p) : zt_if p A B = A := by unfold zt_if; exact if_pos h
theorem zt_if_f {α : Type} {p : Prop} {A B : α} (h : ¬ p) : zt_if p A B = B := by unfold zt_if; exact if_neg h
def zt_up (P : Int → Int) (k v : Int) : Int → Int := fun j => if j = k then v else P j
theorem zt_up_at {P : Int → Int} {k v j : Int} : zt_up P k v j = if j = k then v else P j := rfl
theorem zt_up_eq {P : Int → Int} {k v j : Int} (h : j = k) : zt_up P k v j = v := if_pos h
theorem zt_up_ne {P : Int → Int} {k v j : Int} (h : ¬ j = k) : zt_up P k v j = P j := if_neg h
/-- a fold comes in at k among n -/
def zt_fins (P : Int → Int) (n k x y v : Int) : Int → Int := fun j => if j = 493 then n + 1 else if j = 494 + 3 * k then x else if j = 495 + 3 * k then y else if j = 496 + 3 * k then v else if 497 + 3 * k ≤ j ∧ j < 497 + 3 * n then P (j - 3) else P j
theorem zt_fins_at {P : Int → Int} {n k x y v j : Int} : zt_fins P n k x y v j = if j = 493 then n + 1 else if j = 494 + 3 * k then x else if j = 495 + 3 * k then y else if j = 496 + 3 * k then v else if 497 + 3 * k ≤ j ∧ j < 497 + 3 * n then P (j - 3) else P j := rfl
theorem zt_fins_lo {P : Int → Int} {n k x y v j : Int} (hk : 0 ≤ k ∧ k ≤ n ∧ n < 8) (hj : j < 493 ∨ 518 ≤ j) : zt_fins P n k x y v j = P j := by
  rw [zt_fins_at, if_neg (by omega), if_neg (by omega), if_neg (by omega), if_neg (by omega), if_neg (by omega)]
theorem zt_fins_n {P : Int → Int} {n k x y v : Int} : zt_fins P n k x y v 493 = n + 1 := by rw [zt_fins_at, if_pos rfl]
theorem zt_fins_l {P : Int → Int} {n k x y v j q : Int} (hq : 494 ≤ q ∧ q ≤ 496) (hj : 0 ≤ j ∧ j < k) : zt_fins P n k x y v (q + 3 * j) = P (q + 3 * j) := by
  rw [zt_fins_at, if_neg (by omega), if_neg (by omega), if_neg (by omega), if_neg (by omega), if_neg (by omega)]
theorem zt_fins_h {P : Int → Int} {n k x y v j q : Int} (hq : 494 ≤ q ∧ q ≤ 496) (hk : 0 ≤ k) (hj : k < j ∧ j ≤ n) : zt_fins P n k x y v (q + 3 * j) = P (q + 3 * (j - 1)) := by
  rw [zt_fins_at, if_neg (by omega), if_neg (by omega), if_neg (by omega), if_neg (by omega), if_pos (by omega), show q + 3 * j - 3 = q + 3 * (j - 1) by omega]
theorem zt_fins_x {P : Int → Int} {n k x y v : Int} (hk : 0 ≤ k) : zt_fins P n k x y v (494 + 3 * k) = x := by rw [zt_fins_at, if_neg (by omega), if_pos rfl]
theorem zt_fins_y {P : Int → Int} {n k x y v : Int} (hk : 0 ≤ k) : zt_fins P n k x y v (495 + 3 * k) = y := by rw [zt_fins_at, if_neg (by omega), if_neg (by omega), if_pos rfl]
theorem zt_fins_v {P : Int → Int} {n k x y v : Int} (hk : 0 ≤ k) : zt_fins P n k x y v (496 + 3 * k) = v := by rw [zt_fins_at, if_neg (by omega), if_neg (by omega), if_neg (by omega), if_pos rfl]
theorem zp_fins_at {I : zI} {a n k x y v q j : Int} : zp_fins I a n k x y v q j = if q = a ∧ j = 0 then n + 1 else if q = a + 1 ∧ j = k then x else if q = a + 2 ∧ j = k then y else if q = a + 3 ∧ j = k then v else if (a + 1 ≤ q ∧ q ≤ a + 3) ∧ k < j ∧ j ≤ n then I q (j - 1) else I q j := rfl
theorem zp_fins_off {I : zI} {a n k x y v q j : Int} (hq : q < a ∨ a + 3 < q) : zp_fins I a n k x y v q j = I q j := by
  rw [zp_fins_at, if_neg (by omega), if_neg (by omega), if_neg (by omega), if_neg (by omega), if_neg (by omega)]
theorem zp_fins_n {I : zI} {a n k x y v : Int} : zp_fins I a n k x y v a 0 = n + 1 := by rw [zp_fins_at, if_pos ⟨rfl, rfl⟩]
theorem zp_fins_l {I : zI} {a n k x y v q j : Int} (hq : a + 1 ≤ q) (hj : j < k) : zp_fins I a n k x y v q j = I q j := by
  rw [zp_fins_at, if_neg (by omega), if_neg (by omega), if_neg (by omega), if_neg (by omega), if_neg (by omega)]
theorem zp_fins_h {I : zI} {a n k x y v q j : Int} (hq : a + 1 ≤ q ∧ q ≤ a + 3) (hj : k < j ∧ j ≤ n) : zp_fins I a n k x y v q j = I q (j - 1) := by
  rw [zp_fins_at, if_neg (by omega), if_neg (by omega), if_neg (by omega), if_neg (by omega), if_pos ⟨hq, hj⟩]
theorem zp_fins_x {I : zI} {a n k x y v q : Int} (hq : q = a + 1) : zp_fins I a n k x y v q k = x := by rw [zp_fins_at, if_neg (by omega), if_pos ⟨hq, rfl⟩]
theorem zp_fins_y {I : zI} {a n k x y v q : Int} (hq : q = a + 2) : zp_fins I a n k x y v q k = y := by rw [zp_fins_at, if_neg (by omega), if_neg (by omega), if_pos ⟨hq, rfl⟩]
theorem zp_fins_v {I : zI} {a n k x y v q : Int} (hq : q = a + 3) : zp_fins I a n k x y v q k = v := by rw [zp_fins_at, if_neg (by omega), if_neg (by omega), if_neg (by omega), if_pos ⟨hq, rfl⟩]
/-- where a fold comes in -/
noncomputable def zf_at (fs la : Int → Int) (x y : Int) : Nat → Int
  | 0 => 0
  | n + 1 => zt_if (zf_ahead x y (fs n) (la n)) (zf_at fs la x y n) ((n : Int) + 1)
theorem zf_at_pos {fs la : Int → Int} {x y : Int} : ∀ n : Nat, zf_pos fs la n x y (zf_at fs la x y n)
  | 0 => ⟨by simp [zf_at], fun j j1 j2 => by simp [zf_at] at j1; omega, Or.inl rfl⟩
  | n + 1 => by
    show zf_pos fs la ((n + 1 : Nat) : Int) x y (zt_if (zf_ahead x y (fs n) (la n)) (zf_at fs la x y n) ((n : Int) + 1))
    by_cases h : zf_ahead x y (fs n) (la n)
    · rw [zt_if_t h]
      obtain ⟨h1, h2, h3⟩ := zf_at_pos (fs := fs) (la := la) (x := x) (y := y) n
      refine ⟨by omega, fun j j1 j2 => ?_, h3⟩
      by_cases hj : j = n
      · rw [hj]; exact h
      · exact h2 j j1 (by omega)
    · rw [zt_if_f h]
      refine ⟨by omega, fun j j1 j2 => by omega, Or.inr ?_⟩
      rw [show (n : Int) + 1 - 1 = n by omega]
      exact h
/-- two folds, as they are numbered -/
def zf_nest (a b c d : Int) : Prop := (a ≤ c ∧ d ≤ b ∧ ¬ (a = c ∧ b = d)) ∨ b < c
def zw_page (P : Int → Int) : Prop := (1 ≤ P 0 ∧ P 0 ≤ 12) ∧ (∀ l, 0 ≤ l → l < P 0 → 0 ≤ P (1 + l) ∧ P (1 + l) ≤ 40) ∧ (0 ≤ P 493 ∧ P 493 ≤ 8) ∧ (∀ k, 0 ≤ k → k < P 493 → (0 ≤ P (494 + 3 * k) ∧ P (494 + 3 * k) < P (495 + 3 * k) ∧ P (495 + 3 * k) < P 0) ∧ 0 ≤ P (496 + 3 * k) ∧ P (496 + 3 * k) ≤ 1) ∧ (∀ j k, 0 ≤ j → j < k → k < P 493 → zf_nest (P (494 + 3 * j)) (P (495 + 3 * j)) (P (494 + 3 * k)) (P (495 + 3 * k))) ∧ (0 ≤ P 518 ∧ P 518 < P 0) ∧ 0 ≤ P 519 ∧ P 519 ≤ P (1 + P 518)
/-- frame f tells what page P tells -/
def zv_rep (I : zI) (f : Int) (P : Int → Int) : Prop := I (f + 1) 0 = P 0 ∧ (∀ l, 0 ≤ l → l < P 0 → I (f + 2) l = P (1 + l)) ∧ (∀ l i, 0 ≤ l → l < P 0 → 0 ≤ i → i < P (1 + l) → I (f + 3) (l * 40 + i) = P (13 + 40 * l + i)) ∧ I (f + 4) 0 = P 493 ∧ (∀ k, 0 ≤ k → k < P 493 → I (f + 5) k = P (494 + 3 * k) ∧ I (f + 6) k = P (495 + 3 * k) ∧ I (f + 7) k = P (496 + 3 * k)) ∧ I f 2 = P 518 ∧ I f 3 = P 519
theorem zv_rep_congr {I J : zI} {f : Int} {P : Int → Int} (h : zv_rep I f P) (e : ∀ q, f ≤ q → q < f + 8 → J q = I q) : zv_rep J f P := by
  unfold zv_rep at *
  rw [e f (by omega) (by omega), e (f + 1) (by omega) (by omega), e (f + 2) (by omega) (by omega), e (f + 3) (by omega) (by omega), e (f + 4) (by omega) (by omega), e (f + 5) (by omega) (by omega), e (f + 6) (by omega) (by omega), e (f + 7) (by omega) (by omega)]
  exact h
/-- two pages that tell the same -/
theorem zv_rep_page {I : zI} {f : Int} {P Q : Int → Int} (h : zv_rep I f P) (hw : zw_page P) (e : ∀ j, 0 ≤ j → j < 520 → Q j = P j) : zv_rep I f Q ∧ zw_page Q := by
  obtain ⟨h1, h2, h3, h4, h5, h6, h7⟩ := h
  obtain ⟨w1, w2, w3, w4, w5, w6, w7⟩ := hw
  have e0 := e 0 (by omega) (by omega)
  have e493 := e 493 (by omega) (by omega)
  have e518 := e 518 (by omega) (by omega)
  have e519 := e 519 (by omega) (by omega)
  refine ⟨⟨by rw [e0]; exact h1, fun l l1 l2 => ?_, fun l i l1 l2 i1 i2 => ?_, by rw [e493]; exact h4, fun k k1 k2 => ?_, by rw [e518]; exact h6, by rw [e519]; exact h7⟩, by rw [e0]; exact w1, fun l l1 l2 => ?_, by rw [e493]; exact w3, fun k k1 k2 => ?_, fun j k j1 jk k2 => ?_, by rw [e518, e0]; exact w6, ?_⟩
  · rw [e0] at l2
    rw [e (1 + l) (by omega) (by omega)]
    exact h2 l l1 l2
  · rw [e0] at l2
    rw [e (1 + l) (by omega) (by omega)] at i2
    have := w2 l l1 l2
    rw [e _ (by omega) (by omega)]
    exact h3 l i l1 l2 i1 i2
  · rw [e493] at k2
    rw [e _ (by omega) (by omega), e _ (by omega) (by omega), e _ (by omega) (by omega)]
    exact h5 k k1 k2
  · rw [e0] at l2
    rw [e (1 + l) (by omega) (by omega)]
    exact w2 l l1 l2
  · rw [e493] at k2
    rw [e0, e (494 + 3 * k) (by omega) (by omega), e (495 + 3 * k) (by omega) (by omega), e (496 + 3 * k) (by omega) (by omega)]
    exact w4 k k1 k2
  · rw [e493] at k2
    rw [e _ (by omega) (by omega), e _ (by omega) (by omega), e _ (by omega) (by omega), e _ (by omega) (by omega)]
    exact w5 j k j1 jk k2
  · rw [e519, e518, e (1 + P 518) (by omega) (by omega)]
    exact w7
def zt_ag (P : Int → Int) (x y : Int) : Prop := ∃ k, (0 ≤ k ∧ k < P 493) ∧ zf_odds (P (494 + 3 * k)) (P (495 + 3 * k)) x y
theorem zt_ag_iff {I : zI} {f x y : Int} {P : Int → Int} (h : zv_rep I f P) : zf_clash I (f + 4) x y ↔ zt_ag P x y := by
  obtain ⟨h1, h2, h3, h4, h5, h6, h7⟩ := h
  have a1 : f + 4 + 1 = f + 5 := by omega
  have a2 : f + 4 + 2 = f + 6 := by omega
  unfold zf_clash
  rw [a1, a2, h4]
  constructor
  · rintro ⟨k, ⟨k1, k2⟩, k3⟩
    obtain ⟨e1, e2, -⟩ := h5 k k1 k2
    rw [e1, e2] at k3
    exact ⟨k, ⟨k1, k2⟩, k3⟩
  · rintro ⟨k, ⟨k1, k2⟩, k3⟩
    obtain ⟨e1, e2, -⟩ := h5 k k1 k2
    rw [← e1, ← e2] at k3
    exact ⟨k, ⟨k1, k2⟩, k3⟩
/-- the place of a new fold in a page -/
noncomputable def zt_pos (P : Int → Int) (x y : Int) : Int := zf_at (fun j => P (494 + 3 * j)) (fun j => P (495 + 3 * j)) x y (P 493).toNat
theorem zt_pos_ok {P : Int → Int} {x y : Int} (h : 0 ≤ P 493) : zf_pos (fun j => P (494 + 3 * j)) (fun j => P (495 + 3 * j)) (P 493) x y (zt_pos P x y) := by
  have := zf_at_pos (fs := fun j => P (494 + 3 * j)) (la := fun j => P (495 + 3 * j)) (x := x) (y := y) (P 493).toNat
  rw [show (((P 493).toNat : Nat) : Int) = P 493 by omega] at this
  exact this
theorem zt_pos_b {P : Int → Int} {x y : Int} (h : 0 ≤ P 493) : (0 ≤ zt_pos P x y ∧ zt_pos P x y ≤ P 493) ∧ (∀ j, zt_pos P x y ≤ j → j < P 493 → zf_ahead x y (P (494 + 3 * j)) (P (495 + 3 * j))) ∧ (zt_pos P x y = 0 ∨ ¬ zf_ahead x y (P (494 + 3 * (zt_pos P x y - 1))) (P (495 + 3 * (zt_pos P x y - 1)))) := zt_pos_ok h
/-- a fold more: the page stays well -/
theorem zw_fins {P : Int → Int} {x y v : Int} (hw : zw_page P) (hx : 0 ≤ x ∧ x < y ∧ y < P 0) (hv : 0 ≤ v ∧ v ≤ 1) (hn : P 493 < 8) (ha : ¬ zt_ag P x y) : zw_page (zt_fins P (P 493) (zt_pos P x y) x y v) := by
  obtain ⟨w1, w2, w3, w4, w5, w6, w7⟩ := hw
  obtain ⟨⟨p1, p2⟩, p3, p4⟩ := zt_pos_b (x := x) (y := y) w3.1
  obtain ⟨k, hk⟩ : ∃ k, k = zt_pos P x y := ⟨_, rfl⟩
  rw [← hk] at p1 p2 p3 p4 ⊢
  obtain ⟨n, hnn⟩ : ∃ n, n = P 493 := ⟨_, rfl⟩
  rw [← hnn] at w3 w4 w5 hn p2 p3 ⊢
  have low : ∀ j, j < 493 → zt_fins P n k x y v j = P j := fun j hj => zt_fins_lo (by omega) (by omega)
  have high : ∀ j, 518 ≤ j → zt_fins P n k x y v j = P j := fun j hj => zt_fins_lo (by omega) (by omega)
  have f493 : zt_fins P n k x y v 493 = n + 1 := zt_fins_n
  have fx : zt_fins P n k x y v (494 + 3 * k) = x := zt_fins_x p1
  have fy : zt_fins P n k x y v (495 + 3 * k) = y := zt_fins_y p1
  have fz : zt_fins P n k x y v (496 + 3 * k) = v := zt_fins_v p1
  have fl : ∀ q j, 494 ≤ q → q ≤ 496 → 0 ≤ j → j < k → zt_fins P n k x y v (q + 3 * j) = P (q + 3 * j) := fun q j q1 q2 j0 hj => zt_fins_l ⟨q1, q2⟩ ⟨j0, hj⟩
  have fh : ∀ q j, 494 ≤ q → q ≤ 496 → k < j → j ≤ n → zt_fins P n k x y v (q + 3 * j) = P (q + 3 * (j - 1)) := fun q j q1 q2 hj hj2 => zt_fins_h ⟨q1, q2⟩ p1 ⟨hj, hj2⟩
  have hag : ∀ j, 0 ≤ j → j < n → ¬ zf_odds (P (494 + 3 * j)) (P (495 + 3 * j)) x y := fun j j1 j2 q => ha ⟨j, ⟨j1, by omega⟩, q⟩
  have nestL : ∀ j, 0 ≤ j → j < k → zf_nest (P (494 + 3 * j)) (P (495 + 3 * j)) x y := by
    intro j j1 j2
    have z1 := hag j j1 (by omega)
    have z2 := (w4 j j1 (by omega)).1
    have z4 : ¬ zf_ahead x y (P (494 + 3 * j)) (P (495 + 3 * j)) := by
      rcases p4 with p4 | p4
      · omega
      · by_cases hjk : j = k - 1
        · rw [hjk]; exact p4
        · have z5 := w5 j (k - 1) j1 (by omega) (by omega)
          have z6 := (w4 (k - 1) (by omega) (by omega)).1
          unfold zf_nest at z5
          unfold zf_ahead at p4 ⊢
          omega
    unfold zf_odds at z1
    unfold zf_ahead at z4
    unfold zf_nest
    omega
  have nestH : ∀ j, k ≤ j → j < n → zf_nest x y (P (494 + 3 * j)) (P (495 + 3 * j)) := by
    intro j j1 j2
    have z1 := hag j (by omega) (by omega)
    have z2 := (w4 j (by omega) (by omega)).1
    have z4 := p3 j j1 j2
    unfold zf_odds at z1
    unfold zf_ahead at z4
    unfold zf_nest
    omega
  refine ⟨by rw [low 0 (by omega)]; exact w1, fun l l1 l2 => ?_, by rw [f493]; omega, fun j j1 j2 => ?_, fun i j i1 ij j2 => ?_, by rw [high 518 (by omega), low 0 (by omega)]; exact w6, ?_⟩
  · rw [low 0 (by omega)] at l2
    rw [low (1 + l) (by omega)]
    exact w2 l l1 l2
  · rw [f493] at j2
    rw [low 0 (by omega)]
    rcases Int.lt_trichotomy j k with q | q | q
    · rw [fl 494 j (by omega) (by omega) (by omega) q, fl 495 j (by omega) (by omega) (by omega) q, fl 496 j (by omega) (by omega) (by omega) q]
      exact w4 j j1 (by omega)
    · rw [q, fx, fy, fz]
      omega
    · rw [fh 494 j (by omega) (by omega) q (by omega), fh 495 j (by omega) (by omega) q (by omega), fh 496 j (by omega) (by omega) q (by omega)]
      exact w4 (j - 1) (by omega) (by omega)
  · rw [f493] at j2
    rcases Int.lt_trichotomy i k with q | q | q
    · rw [fl 494 i (by omega) (by omega) (by omega) q, fl 495 i (by omega) (by omega) (by omega) q]
      rcases Int.lt_trichotomy j k with q' | q' | q'
      · rw [fl 494 j (by omega) (by omega) (by omega) q', fl 495 j (by omega) (by omega) (by omega) q']
        exact w5 i j i1 ij (by omega)
      · rw [q', fx, fy]
        exact nestL i i1 q
      · rw [fh 494 j (by omega) (by omega) q' (by omega), fh 495 j (by omega) (by omega) q' (by omega)]
        exact w5 i (j - 1) i1 (by omega) (by omega)
    · rw [q, fx, fy, fh 494 j (by omega) (by omega) (by omega) (by omega), fh 495 j (by omega) (by omega) (by omega) (by omega)]
      exact nestH (j - 1) (by omega) (by omega)
    · rw [fh 494 i (by omega) (by omega) q (by omega), fh 495 i (by omega) (by omega) q (by omega), fh 494 j (by omega) (by omega) (by omega) (by omega), fh 495 j (by omega) (by omega) (by omega) (by omega)]
      exact w5 (i - 1) (j - 1) (by omega) (by omega) (by omega)
  · rw [high 519 (by omega), high 518 (by omega), low (1 + P 518) (by omega)]
    exact w7
/-- a fold more in a frame and in its page -/
theorem zv_fins {I : zI} {f x y v k : Int} {P : Int → Int} (hw : zw_page P) (h : zv_rep I f P) (hk : zf_pos (I (f + 5)) (I (f + 6)) (P 493) x y k) (hn : P 493 < 8) : k = zt_pos P x y ∧ zv_rep (zp_fins I (f + 4) (P 493) k x y v) f (zt_fins P (P 493) (zt_pos P x y) x y v) := by
  obtain ⟨w1, w2, w3, w4, w5, w6, w7⟩ := hw
  obtain ⟨h1, h2, h3, h4, h5, h6, h7⟩ := h
  have ke : k = zt_pos P x y := zf_pos_uniq hk (zt_pos_ok w3.1) (fun j j1 j2 => ⟨(h5 j j1 j2).1, (h5 j j1 j2).2.1⟩)
  refine ⟨ke, ?_⟩
  rw [← ke]
  have k12 := hk.1
  have off : ∀ q j, (q < f + 4 ∨ f + 7 < q) → zp_fins I (f + 4) (P 493) k x y v q j = I q j := fun q j hq => zp_fins_off (by omega)
  refine ⟨?_, fun l l1 l2 => ?_, fun l i l1 l2 i1 i2 => ?_, ?_, fun j j1 j2 => ?_, ?_, ?_⟩
  · rw [off _ _ (by omega), zt_fins_lo (by omega) (by omega)]; exact h1
  · rw [zt_fins_lo (by omega) (by omega)] at l2
    rw [off _ _ (by omega), zt_fins_lo (by omega) (by omega)]; exact h2 l l1 l2
  · rw [zt_fins_lo (by omega) (by omega)] at l2
    rw [zt_fins_lo (by omega) (by omega)] at i2
    have := w2 l l1 l2
    rw [off _ _ (by omega), zt_fins_lo (by omega) (by omega)]
    exact h3 l i l1 l2 i1 i2
  · rw [zt_fins_n, zp_fins_n]
  · rw [zt_fins_n] at j2
    rcases Int.lt_trichotomy j k with q | q | q
    · obtain ⟨e1, e2, e3⟩ := h5 j j1 (by omega)
      rw [zt_fins_l (by omega) ⟨j1, q⟩, zt_fins_l (by omega) ⟨j1, q⟩, zt_fins_l (by omega) ⟨j1, q⟩, zp_fins_l (by omega) q, zp_fins_l (by omega) q, zp_fins_l (by omega) q]
      exact ⟨e1, e2, e3⟩
    · subst q
      rw [zt_fins_x j1, zt_fins_y j1, zt_fins_v j1, zp_fins_x (by omega), zp_fins_y (by omega), zp_fins_v (by omega)]
      exact ⟨rfl, rfl, rfl⟩
    · obtain ⟨e1, e2, e3⟩ := h5 (j - 1) (by omega) (by omega)
      rw [zt_fins_h (by omega) k12.1 ⟨q, by omega⟩, zt_fins_h (by omega) k12.1 ⟨q, by omega⟩, zt_fins_h (by omega) k12.1 ⟨q, by omega⟩, zp_fins_h (by omega) ⟨q, by omega⟩, zp_fins_h (by omega) ⟨q, by omega⟩, zp_fins_h (by omega) ⟨q, by omega⟩]
      exact ⟨e1, e2, e3⟩
  · rw [off _ _ (by omega), zt_fins_lo (by omega) (by omega)]; exact h6
  · rw [off _ _ (by omega), zt_fins_lo (by omega) (by omega)]; exact h7
