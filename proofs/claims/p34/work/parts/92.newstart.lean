/-! both new: the relation holds at the start -/
section ZNu
variable {d : Nat} {S : zS} {I R : zI} {M X c : Int} {t : Nat}
theorem zn_cl_congr {S' : zS} {R' : zI} (h : zs_cl S R X) (s : ∀ q, q < X + 300 → S' q = S q) (r : ∀ q, q < X + 300 → R' q = R q) : zs_cl S' R' X := by
  obtain ⟨⟨x0, x1⟩, ⟨c0, c1, c2, c3, c4, c5⟩, hta, hse, hhi, hsc, ⟨ims, hims⟩, ⟨shs, hshs⟩, hfr, ⟨fa6, fa7, fas⟩, ⟨ne67, nes, ness⟩⟩ := id h
  have rX := r X (by omega)
  have r6 := r (X + 6) (by omega)
  refine ⟨⟨x0, by rw [s X (by omega)]; exact x1⟩, ⟨by rw [rX]; exact c0, by rw [rX]; exact c1, by rw [rX]; exact c2, by rw [rX]; exact c3, by rw [rX]; exact c4, by rw [rX]; exact c5⟩, zn_ta_congr hta (fun q q1 q2 => s q (by omega)) (r _ (by omega)), ⟨hse.1, by rw [s (X + 4) (by omega)]; exact hse.2⟩, zn_hi_congr hhi (fun q q1 q2 => s q (by omega)) (r _ (by omega)), zn_sc_congr hsc (fun q q1 q2 => s q (by omega)) (fun q q1 q2 => r q (by omega)), ⟨by rw [s (X + 254) (by omega)]; exact ims, fun k k1 k2 => ?_⟩, ⟨by rw [s (X + 255) (by omega)]; exact shs, fun k k1 k2 => ?_⟩, fun f hf => ?_, ⟨by rw [rX]; exact fa6, by rw [rX]; exact fa7, fun k k1 k2 => by rw [r6]; exact fas k k1 k2⟩, ⟨by rw [rX]; exact ne67, fun k k1 k2 => by rw [r6, rX]; exact nes k k1 k2, fun j k j1 jk k2 => by rw [r6]; exact ness j k j1 jk k2⟩⟩
  · obtain ⟨e1, e2⟩ := hims k k1 k2
    exact ⟨by rw [r (X + 254) (by omega)]; exact e1, zn_im_congr e2 (fun q q1 q2 => s q (by omega)) (r _ (by omega))⟩
  · obtain ⟨e1, e2⟩ := hshs k k1 k2
    exact ⟨by rw [r (X + 255) (by omega)]; exact e1, zn_sh_congr e2 (fun q q1 q2 => s q (by omega)) (r _ (by omega))⟩
  · have hlo : f + 8 ≤ X + 300 := by
      unfold zs_fb zs_fa at hf
      omega
    exact zn_fr_congr (hfr f hf) (fun q q1 q2 => s q (by omega)) (fun q q1 q2 => r q (by omega))
theorem zn_call_congr {J R' A : zI} (hc : zs_cl S R X) (r : ∀ q, q < X + 300 → R' q = R q) (i : ∀ q, q < X + 300 → J q = I q) (h : zc_all I R X A) : zc_all J R' X A := by
  have h2 := zc_all_I hc h (fun q _ q2 => i q q2)
  unfold zc_all zc_his at *
  rw [r X (by omega), r (X + 6) (by omega)]
  exact h2
end ZNu
