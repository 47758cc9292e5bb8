/-! a text is read, on both sides -/
section ZTx
variable {d : Nat} {S : zS} {I J J0 J1 J2 K K0 K1 R R' : zI} {T : Int × Nat} {X M n v l f c k x y z r i p w t m e b g len N o u : Int} {P Q s : Int → Int}
theorem zx_forgetImage (hc : zs_cl S R X) (hk : 0 ≤ k ∧ k < 2) : zG (d + 2) 132 [.inr (.inr X), .inl k] (S, I, R, T) = some (0, (S, zi_up I (X + 272 + 10 * k) 2 0, R, T)) := by
  have io := zx_imageOf (d := d) (I := I) (T := T) (k := k) hc
  rw [if_pos hk] at io
  have X0 := hc.1.1
  have ne : ¬ X + 272 + 10 * k = 0 := by omega
  have k3 := (zcl_im hc hk).2.1
  rw [zm_132]
  ((try simp only [zbd_conv]); simp (disch := first | assumption | omega | trivial) only [↓reduceIte, zbd_some, eq_self, Int.reduceEq, Int.reduceLT, Int.reduceLE, and_self, or_true, true_or, or_false, false_or, if_pos, if_neg, if_true, if_false, true_and, and_true, not_true_eq_false, not_false_eq_true, false_and, and_false, Option.bind_some, zq_t, zq_f, zq0, zq1, zw_id, zcl_x1 hc, io, ne, k3, zwr])
theorem zs_cl_flip (h : zs_cl S R X) : zs_cl S (zi_up (zi_up R X 7 (R X 6)) X 6 (R X 7)) X := by
  have fa6 := zcl_fa6 h rfl
  have fa7 := zcl_fa7 h rfl
  have fas := fun k k1 k2 => zcl_fas (k := k) h ⟨k1, k2⟩
  obtain ⟨n1, n2, n3⟩ := h.2.2.2.2.2.2.2.2.2.2
  have e6 : zi_up (zi_up R X 7 (R X 6)) X 6 (R X 7) X 6 = R X 7 := zu_eq ⟨rfl, rfl⟩
  have e7 : zi_up (zi_up R X 7 (R X 6)) X 6 (R X 7) X 7 = R X 6 := by rw [zu_ne (by omega), zu_eq ⟨rfl, rfl⟩]
  have es : zi_up (zi_up R X 7 (R X 6)) X 6 (R X 7) (X + 6) = R (X + 6) := by rw [zu_off (by omega), zu_off (by omega)]
  refine zs_cl_R h (fun q q1 q2 => by rw [zu_off q1, zu_off q1]) (fun j j1 j2 => by rw [zu_ne (by omega), zu_ne (by omega)]) ⟨by rw [e6]; exact fa7, by rw [e7]; exact fa6, fun j j1 j2 => by rw [es]; exact fas j j1 j2⟩ ⟨by rw [e6, e7]; exact fun q => n1 q.symm, fun j j1 j2 => ?_, fun i j i1 i2 i3 => by rw [es]; exact n3 i j i1 i2 i3⟩
  rw [es, e6, e7]
  exact ⟨(n2 j j1 j2).2, (n2 j j1 j2).1⟩
end ZTx
