/-! an image is kept, and brought back -/
section ZKe
variable {d : Nat} {S : zS} {I J J1 J2 K K0 K1 R R' : zI} {T : Int × Nat} {X M n v l f c k x y z r i p w t m e b g len N o : Int} {P Q s : Int → Int}
theorem zc_im1_mk {A : zI} (y : Int) (hy : y = X + 272 + 10 * k) (h1 : I y 2 = 1) (h2 : A 12 k = 1) (hr : zv_rep I (y + 1) P) (hw : zw_page P) (e : ∀ j, 0 ≤ j → j < 520 → A 13 (524 * k + j) = P j) (hs : ∀ q, 0 ≤ q → q < 4 → I (y + 9) q = A 13 (524 * k + 520 + q)) (hz : zr_se I (y + 9)) : zc_im1 I X A k := by
  subst hy
  unfold zc_im1
  rw [h1, h2, show X + 273 + 10 * k = X + 272 + 10 * k + 1 by omega, show X + 281 + 10 * k = X + 272 + 10 * k + 9 by omega]
  exact ⟨⟨rfl, Or.inr rfl⟩, fun _ => ⟨zv_rep_page hr hw (fun j j1 j2 => e j j1 j2), hs, hz⟩⟩
theorem zc_im1_A {A A' : zI} (h : zc_im1 I X A k) (h12 : A' 12 k = A 12 k) (h13 : ∀ j, 524 * k ≤ j → j < 524 * k + 524 → A' 13 j = A 13 j) : zc_im1 I X A' k := by
  unfold zc_im1 at *
  rw [h12]
  refine ⟨h.1, fun q => ?_⟩
  obtain ⟨a1, a2, a3⟩ := h.2 q
  refine ⟨zv_rep_page a1.1 a1.2 (fun j j1 j2 => h13 (524 * k + j) (by omega) (by omega)), fun q q1 q2 => ?_, a3⟩
  rw [h13 _ (by omega) (by omega)]
  exact a2 q q1 q2
end ZKe
