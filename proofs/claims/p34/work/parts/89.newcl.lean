/-! a new object of the class: what lies where -/
section ZNr
variable {d : Nat} {S S' : zS} {I I' R R' : zI} {X k : Int} {t : Nat}
theorem zn_ta_congr {a : Int} (h : zs_ta S R a) (s : ∀ q, a ≤ q → q < a + 3 → S' q = S q) (r : R' a = R a) : zs_ta S' R' a := by
  unfold zs_ta at *
  rw [s a (by omega) (by omega), s (a + 1) (by omega) (by omega), s (a + 2) (by omega) (by omega), r]
  exact h
theorem zn_hi_congr {a : Int} (h : zs_hi S R a) (s : ∀ q, a ≤ q → q < a + 2 → S' q = S q) (r : R' a = R a) : zs_hi S' R' a := by
  unfold zs_hi at *
  rw [s a (by omega) (by omega), s (a + 1) (by omega) (by omega), r]
  exact h
theorem zn_sc_congr {a : Int} (h : zs_sc S R a) (s : ∀ q, a ≤ q → q < a + 119 → S' q = S q) (r : ∀ q, a ≤ q → q < a + 119 → R' q = R q) : zs_sc S' R' a := by
  obtain ⟨h1, h2, h3, h4, h5⟩ := h
  refine ⟨h1, by rw [s a (by omega) (by omega)]; exact h2, by rw [r a (by omega) (by omega)]; exact h3, by rw [s (a + 1) (by omega) (by omega)]; exact h4, fun l l1 l2 => ?_⟩
  obtain ⟨e1, e2⟩ := h5 l l1 l2
  exact ⟨by rw [r (a + 1) (by omega) (by omega)]; exact e1, zn_ll_congr e2 (fun q q1 q2 => s q (by omega) (by omega)) (r _ (by omega) (by omega))⟩
theorem zn_im_congr {a : Int} (h : zs_im S R a) (s : ∀ q, a ≤ q → q < a + 10 → S' q = S q) (r : R' a = R a) : zs_im S' R' a := by
  unfold zs_im zs_se at *
  rw [s a (by omega) (by omega), s (a + 9) (by omega) (by omega), r]
  exact h
theorem zn_sh_congr {a : Int} (h : zs_sh S R a) (s : ∀ q, a ≤ q → q < a + 2 → S' q = S q) (r : R' a = R a) : zs_sh S' R' a := by
  unfold zs_sh at *
  rw [s a (by omega) (by omega), s (a + 1) (by omega) (by omega), r]
  exact h
def zn_p1 (S : zS) (I R : zI) (X : Int) : Prop := ((0 < X ∧ (S X).1 = 10) ∧ R X 0 = X + 1 ∧ R X 1 = X + 4 ∧ R X 2 = X + 5) ∧ zs_ta S R (X + 1) ∧ zs_se S (X + 4) ∧ zs_hi S R (X + 5) ∧ (∀ k, 0 ≤ k → k < 16 → R (X + 6) k = X + 7 + 8 * k ∧ zs_fr S R (X + 7 + 8 * k)) ∧ I (X + 1) 2 = 0 ∧ (I (X + 4) 0 = 20 ∧ I (X + 4) 1 = 4 ∧ I (X + 4) 2 = 2 ∧ I (X + 4) 3 = 2) ∧ I (X + 5) 1 = 0 ∧ I (X + 5) 2 = 0
theorem zn_p1_congr (h : zn_p1 S I R X) (s : ∀ q, X ≤ q → q < X + 135 → S' q = S q) (i : ∀ q, X + 1 ≤ q → q < X + 135 → I' q = I q) (r : ∀ q, X + 1 ≤ q → q < X + 135 → R' q = R q) (r0 : ∀ j, j < 3 → R' X j = R X j) : zn_p1 S' I' R' X := by
  obtain ⟨⟨⟨h1, h2⟩, h3, h4, h5⟩, h6, ⟨h7, h8⟩, h9, h10, h11, h12, h13, h14⟩ := h
  refine ⟨⟨⟨h1, by rw [s X (by omega) (by omega)]; exact h2⟩, by rw [r0 0 (by omega)]; exact h3, by rw [r0 1 (by omega)]; exact h4, by rw [r0 2 (by omega)]; exact h5⟩, zn_ta_congr h6 (fun q q1 q2 => s q (by omega) (by omega)) (r _ (by omega) (by omega)), ⟨h7, by rw [s (X + 4) (by omega) (by omega)]; exact h8⟩, zn_hi_congr h9 (fun q q1 q2 => s q (by omega) (by omega)) (r _ (by omega) (by omega)), fun k k1 k2 => ?_, by rw [i (X + 1) (by omega) (by omega)]; exact h11, by rw [i (X + 4) (by omega) (by omega)]; exact h12, by rw [i (X + 5) (by omega) (by omega)]; exact h13, by rw [i (X + 5) (by omega) (by omega)]; exact h14⟩
  obtain ⟨e1, e2⟩ := h10 k k1 k2
  exact ⟨by rw [r (X + 6) (by omega) (by omega)]; exact e1, zn_fr_congr e2 (fun q q1 q2 => s q (by omega) (by omega)) (fun q q1 q2 => r q (by omega) (by omega))⟩
def zn_p2 (S : zS) (I R : zI) (X : Int) : Prop := zn_p1 S I R X ∧ (R X 3 = X + 135 ∧ R X 4 = X + 254 ∧ R X 5 = X + 255 ∧ R X 6 = X + 256) ∧ zs_sc S R (X + 135) ∧ S (X + 254) = (15, 2) ∧ S (X + 255) = (17, 4) ∧ zs_fr S R (X + 256) ∧ zv_rep I (X + 256) zt_zero.1
theorem zn_p2_congr (h : zn_p2 S I R X) (s : ∀ q, X ≤ q → q < X + 264 → S' q = S q) (i : ∀ q, X + 1 ≤ q → q < X + 264 → I' q = I q) (r : ∀ q, X + 1 ≤ q → q < X + 264 → q ≠ X + 254 → q ≠ X + 255 → R' q = R q) (r0 : ∀ j, j < 7 → R' X j = R X j) : zn_p2 S' I' R' X := by
  obtain ⟨h1, ⟨h2, h3, h4, h5⟩, h6, h7, h8, h9, h10⟩ := h
  exact ⟨zn_p1_congr h1 (fun q q1 q2 => s q (by omega) (by omega)) (fun q q1 q2 => i q (by omega) (by omega)) (fun q q1 q2 => r q (by omega) (by omega) (by omega) (by omega)) (fun j j1 => r0 j (by omega)), ⟨by rw [r0 3 (by omega)]; exact h2, by rw [r0 4 (by omega)]; exact h3, by rw [r0 5 (by omega)]; exact h4, by rw [r0 6 (by omega)]; exact h5⟩, zn_sc_congr h6 (fun q q1 q2 => s q (by omega) (by omega)) (fun q q1 q2 => r q (by omega) (by omega) (by omega) (by omega)), by rw [s (X + 254) (by omega) (by omega)]; exact h7, by rw [s (X + 255) (by omega) (by omega)]; exact h8, zn_fr_congr h9 (fun q q1 q2 => s q (by omega) (by omega)) (fun q q1 q2 => r q (by omega) (by omega) (by omega) (by omega)), zv_rep_congr h10 (fun q q1 q2 => i q (by omega) (by omega))⟩
def zn_p3 (S : zS) (I R : zI) (X : Int) : Prop := zn_p2 S I R X ∧ R X 7 = X + 264 ∧ zs_fr S R (X + 264) ∧ I X 8 = 0 ∧ I X 9 = 0
theorem zn_p3_congr (h : zn_p3 S I R X) (s : ∀ q, X ≤ q → q < X + 272 → S' q = S q) (i : ∀ q, X ≤ q → q < X + 272 → I' q = I q) (r : ∀ q, X ≤ q → q < X + 272 → q ≠ X + 254 → q ≠ X + 255 → R' q = R q) : zn_p3 S' I' R' X := by
  obtain ⟨h1, h2, h3, h4, h5⟩ := h
  have r0 := r X (by omega) (by omega) (by omega) (by omega)
  have i0 := i X (by omega) (by omega)
  exact ⟨zn_p2_congr h1 (fun q q1 q2 => s q (by omega) (by omega)) (fun q q1 q2 => i q (by omega) (by omega)) (fun q q1 q2 => r q (by omega) (by omega)) (fun j j1 => by rw [r0]), by rw [r0]; exact h2, zn_fr_congr h3 (fun q q1 q2 => s q (by omega) (by omega)) (fun q q1 q2 => r q (by omega) (by omega) (by omega) (by omega)), by rw [i0]; exact h4, by rw [i0]; exact h5⟩
def zn_p4 (S : zS) (I R : zI) (X k : Int) : Prop := zn_p3 S I R X ∧ ∀ j, 0 ≤ j → j < k → R (X + 254) j = X + 272 + 10 * j ∧ zs_im S R (X + 272 + 10 * j) ∧ zs_fr S R (X + 273 + 10 * j) ∧ I (X + 272 + 10 * j) 2 = 0
theorem zn_p4_congr (h : zn_p4 S I R X k) (s : ∀ q, X ≤ q → q < X + 272 + 10 * k → S' q = S q) (i : ∀ q, X ≤ q → q < X + 272 + 10 * k → I' q = I q) (r : ∀ q, X ≤ q → q < X + 272 + 10 * k → q ≠ X + 254 → q ≠ X + 255 → R' q = R q) (r0 : ∀ j, j < k → R' (X + 254) j = R (X + 254) j) (hk : 0 ≤ k) : zn_p4 S' I' R' X k := by
  obtain ⟨h1, h2⟩ := h
  refine ⟨zn_p3_congr h1 (fun q q1 q2 => s q (by omega) (by omega)) (fun q q1 q2 => i q (by omega) (by omega)) (fun q q1 q2 => r q (by omega) (by omega)), fun j j1 j2 => ?_⟩
  obtain ⟨e1, e2, e3, e4⟩ := h2 j j1 j2
  exact ⟨by rw [r0 j j2]; exact e1, zn_im_congr e2 (fun q q1 q2 => s q (by omega) (by omega)) (r _ (by omega) (by omega) (by omega) (by omega)), zn_fr_congr e3 (fun q q1 q2 => s q (by omega) (by omega)) (fun q q1 q2 => r q (by omega) (by omega) (by omega) (by omega)), by rw [i (X + 272 + 10 * j) (by omega) (by omega)]; exact e4⟩
def zn_p5 (S : zS) (I R : zI) (X k : Int) : Prop := zn_p4 S I R X 2 ∧ ∀ j, 0 ≤ j → j < k → R (X + 255) j = X + 292 + 2 * j ∧ zs_sh S R (X + 292 + 2 * j) ∧ I (X + 292 + 2 * j) 0 = 0 ∧ I (X + 292 + 2 * j) 2 = 0
theorem zn_p5_congr (h : zn_p5 S I R X k) (s : ∀ q, X ≤ q → q < X + 292 + 2 * k → S' q = S q) (i : ∀ q, X ≤ q → q < X + 292 + 2 * k → I' q = I q) (r : ∀ q, X ≤ q → q < X + 292 + 2 * k → q ≠ X + 255 → R' q = R q) (r0 : ∀ j, j < k → R' (X + 255) j = R (X + 255) j) (hk : 0 ≤ k) : zn_p5 S' I' R' X k := by
  obtain ⟨h1, h2⟩ := h
  refine ⟨zn_p4_congr h1 (fun q q1 q2 => s q (by omega) (by omega)) (fun q q1 q2 => i q (by omega) (by omega)) (fun q q1 q2 q3 q4 => r q (by omega) (by omega) q4) (fun j j1 => by rw [r (X + 254) (by omega) (by omega) (by omega)]) (by omega), fun j j1 j2 => ?_⟩
  obtain ⟨e1, e2, e3, e4⟩ := h2 j j1 j2
  exact ⟨by rw [r0 j j2]; exact e1, zn_sh_congr e2 (fun q q1 q2 => s q (by omega) (by omega)) (r _ (by omega) (by omega) (by omega)), by rw [i (X + 292 + 2 * j) (by omega) (by omega)]; exact e3, by rw [i (X + 292 + 2 * j) (by omega) (by omega)]; exact e4⟩
/-- the object with all its parts -/
theorem zn_p5_cl (h : zn_p5 S I R X 4) : zs_cl S R X := by
  obtain ⟨⟨⟨⟨⟨⟨⟨a1, a2⟩, a3, a4, a5⟩, b1, b2, b3, b4, b5, b6, b7, b8⟩, ⟨c1, c2, c3, c4⟩, c5, c6, c7, c8, c9⟩, d1, d2, d3, d4⟩, e1⟩, f1⟩ := h
  refine ⟨⟨a1, a2⟩, ⟨a3, a4, a5, c1, c2, c3⟩, b1, b2, b3, c5, ⟨c6, fun k k1 k2 => ⟨(e1 k k1 k2).1, (e1 k k1 k2).2.1⟩⟩, ⟨c7, fun k k1 k2 => ⟨(f1 k k1 k2).1, (f1 k k1 k2).2.1⟩⟩, fun f hf => ?_, ⟨by rw [c4]; exact Or.inr (Or.inl rfl), by rw [d1]; exact Or.inr (Or.inr rfl), fun k k1 k2 => ?_⟩, ⟨by rw [c4, d1]; omega, fun k k1 k2 => ?_, fun j k j1 jk k2 => ?_⟩⟩
  · rcases hf with (⟨q1, q2, q3⟩ | q | q) | q | q
    · obtain ⟨k, hk⟩ : ∃ k, f = X + 7 + 8 * k := ⟨(f - X - 7) / 8, by omega⟩
      rw [hk]
      exact (b4 k (by omega) (by omega)).2
    · rw [q]; exact c8
    · rw [q]; exact d2
    · rw [q, show X + 273 = X + 273 + 10 * 0 by omega]; exact (e1 0 (by omega) (by omega)).2.2.1
    · rw [q, show X + 283 = X + 273 + 10 * 1 by omega]; exact (e1 1 (by omega) (by omega)).2.2.1
  · rw [(b4 k k1 k2).1]
    exact Or.inl ⟨by omega, by omega, by omega⟩
  · rw [(b4 k k1 k2).1, c4, d1]
    exact ⟨by omega, by omega⟩
  · rw [(b4 j j1 (by omega)).1, (b4 k (by omega) k2).1]
    omega
end ZNr
