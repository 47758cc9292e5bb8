/-! both sides tell the same -/
def zr_row (I : zI) (M : Int) : zI := fun q => I (M + q)
theorem zr_row0 {I : zI} {M : Int} : zr_row I M 0 = I M := by
  unfold zr_row
  rw [Int.add_zero]
theorem zr_row_q {I : zI} {M q : Int} : zr_row I M q = I (M + q) := rfl
section ZRl
variable {S : zS} {I J R R' : zI} {X M f l k : Int} {A A' : zI}
theorem zc_all_A (h : zc_all I R X A) (h0 : ∀ j, j ≤ 13 → A' 0 j = A 0 j) (hq : ∀ q, 1 ≤ q → (q ≤ 5 ∨ 12 ≤ q) → q ≠ 2 → A' q = A q) : zc_all I R X A' := by
  have e4 := h0 4 (by omega)
  have e5 := h0 5 (by omega)
  have e6 := h0 6 (by omega)
  have e7 := h0 7 (by omega)
  have e8 := h0 8 (by omega)
  have e9 := h0 9 (by omega)
  have e10 := h0 10 (by omega)
  have e12 := h0 12 (by omega)
  have e13 := h0 13 (by omega)
  have r1 := hq 1 (by omega) (by omega) (by omega)
  have r3 := hq 3 (by omega) (by omega) (by omega)
  have r4 := hq 4 (by omega) (by omega) (by omega)
  have r5 := hq 5 (by omega) (by omega) (by omega)
  have r12 := hq 12 (by omega) (by omega) (by omega)
  have r13 := hq 13 (by omega) (by omega) (by omega)
  have r14 := hq 14 (by omega) (by omega) (by omega)
  have r15 := hq 15 (by omega) (by omega) (by omega)
  have r16 := hq 16 (by omega) (by omega) (by omega)
  unfold zc_all zc_now zc_set zc_lay zc_num zc_tap zc_his zc_img zc_im1 zc_shs zc_sh1 zr_mo at *
  simp only [e4, e5, e6, e7, e8, e9, e10, e12, e13, r1, r3, r4, r5, r12, r13, r14, r15, r16]
  exact h
theorem zc_set_I (h : zc_set I X A) (e : J (X + 4) = I (X + 4)) : zc_set J X A := by
  unfold zc_set at *
  rw [e]; exact h
theorem zc_lay_I (h : zc_lay I X A) (hp : A 1 0 ≤ 12) (e : ∀ q, X + 135 ≤ q → q < X + 255 → J q = I q) : zc_lay J X A := fun l l1 l2 => zl_laid_mem (h l l1 l2) (by omega) (fun q q1 q2 => e q (by omega) (by omega))
theorem zc_tap_I (h : zc_tap I X A) (e1 : J (X + 1) 2 = I (X + 1) 2) (e2 : J (X + 2) = I (X + 2)) : zc_tap J X A := by
  unfold zc_tap at *
  rw [e1, e2]; exact h
theorem zc_his_I (h : zc_his I R X A) (e1 : J (X + 5) = I (X + 5)) (e2 : ∀ k, 0 ≤ k → k < 16 → ∀ q, R (X + 6) k ≤ q → q < R (X + 6) k + 8 → J q = I q) : zc_his J R X A := by
  obtain ⟨h1, h2, h3, h4⟩ := h
  refine ⟨by rw [e1]; exact h1, h2, fun k k1 k2 => ?_, fun j j1 j2 => ?_⟩
  · exact ⟨zv_rep_congr (h3 k k1 k2).1 (e2 k k1 (by omega)), (h3 k k1 k2).2⟩
  · exact ⟨zv_rep_congr (h4 j j1 j2).1 (e2 _ (by omega) (by omega)), (h4 j j1 j2).2⟩
theorem zc_im1_I (h : zc_im1 I X A k) (e : ∀ q, X + 272 + 10 * k ≤ q → q < X + 282 + 10 * k → J q = I q) : zc_im1 J X A k := by
  obtain ⟨h1, h2⟩ := h
  have e9 := e (X + 281 + 10 * k) (by omega) (by omega)
  refine ⟨by rw [e (X + 272 + 10 * k) (by omega) (by omega)]; exact h1, fun q => ?_⟩
  obtain ⟨⟨p1, p2⟩, p3, p4⟩ := h2 q
  exact ⟨⟨zv_rep_congr p1 (fun q q1 q2 => e q (by omega) (by omega)), p2⟩, fun q q1 q2 => by rw [e9]; exact p3 q q1 q2, zr_se_congr p4 e9⟩
theorem zc_img_I (h : zc_img I X A) (e : ∀ q, X + 272 ≤ q → q < X + 292 → J q = I q) : zc_img J X A := fun k k1 k2 => zc_im1_I (h k k1 k2) (fun q q1 q2 => e q (by omega) (by omega))
theorem zc_shs_I (h : zc_shs I X A) (e : ∀ q, X + 292 ≤ q → q < X + 300 → J q = I q) : zc_shs J X A := by
  intro k k1 k2
  have := h k k1 k2
  unfold zc_sh1 at *
  rw [e (X + 292 + 2 * k) (by omega) (by omega), e (X + 292 + 2 * k + 1) (by omega) (by omega)]
  exact this
theorem zc_all_I (hc : zs_cl S R X) (h : zc_all I R X A) (e : ∀ q, X ≤ q → q < X + 300 → J q = I q) : zc_all J R X A := by
  obtain ⟨h1, h2, h3, h4, h5, h6, h7, h8⟩ := h
  have fa6 := hc.2.2.2.2.2.2.2.2.2.1.1
  have fas := hc.2.2.2.2.2.2.2.2.2.1.2.2
  have lo := zs_fa_lo fa6
  refine ⟨⟨zv_rep_congr h1.1 (fun q q1 q2 => e q (by omega) (by omega)), h1.2⟩, zc_set_I h2 (e _ (by omega) (by omega)), zc_lay_I h3 h1.2.1.2 (fun q q1 q2 => e q (by omega) (by omega)), ?_, zc_tap_I h5 (by rw [e _ (by omega) (by omega)]) (e _ (by omega) (by omega)), zc_his_I h6 (e _ (by omega) (by omega)) (fun k k1 k2 q q1 q2 => ?_), zc_img_I h7 (fun q q1 q2 => e q (by omega) (by omega)), zc_shs_I h8 (fun q q1 q2 => e q (by omega) (by omega))⟩
  · unfold zc_num at *
    rw [e X (by omega) (by omega)]; exact h4
  · have := zs_fa_lo (fas k k1 k2)
    exact e q (by omega) (by omega)
/-- how many rows each line has, as the object knows -/
def zr_rz (I : zI) (X : Int) : Int → Int := fun l => I (X + 135 + 11 + 9 * l) 1
theorem zf_hid_iff {P : Int → Int} (h : zv_rep I f P) : zf_hid I (f + 4) l ↔ zt_hid P l := by
  obtain ⟨h1, h2, h3, h4, h5, h6, h7⟩ := h
  have a1 : f + 4 + 1 = f + 5 := by omega
  have a2 : f + 4 + 2 = f + 6 := by omega
  have a3 : f + 4 + 3 = f + 7 := by omega
  unfold zf_hid
  rw [a1, a2, a3, h4]
  constructor
  · rintro ⟨k, ⟨k1, k2⟩, k3⟩
    obtain ⟨e1, e2, e3⟩ := h5 k k1 k2
    rw [e1, e2, e3] at k3
    exact ⟨k, ⟨k1, k2⟩, k3⟩
  · rintro ⟨k, ⟨k1, k2⟩, k3⟩
    obtain ⟨e1, e2, e3⟩ := h5 k k1 k2
    rw [← e1, ← e2, ← e3] at k3
    exact ⟨k, ⟨k1, k2⟩, k3⟩
theorem zf_beh_iff {P : Int → Int} (h : zv_rep I f P) : zf_beh I (f + 4) l ↔ zt_beh P l := by
  obtain ⟨h1, h2, h3, h4, h5, h6, h7⟩ := h
  have a1 : f + 4 + 1 = f + 5 := by omega
  have a3 : f + 4 + 3 = f + 7 := by omega
  unfold zf_beh
  rw [a1, a3, h4]
  constructor
  · rintro ⟨k, ⟨k1, k2⟩, k3⟩
    obtain ⟨e1, e2, e3⟩ := h5 k k1 k2
    rw [e1, e3] at k3
    exact ⟨k, ⟨k1, k2⟩, k3⟩
  · rintro ⟨k, ⟨k1, k2⟩, k3⟩
    obtain ⟨e1, e2, e3⟩ := h5 k k1 k2
    rw [← e1, ← e3] at k3
    exact ⟨k, ⟨k1, k2⟩, k3⟩
theorem zl_vis_iff {P : Int → Int} (h : zv_rep I f P) : zl_vis I (X + 135) f k = zt_vis P (zr_rz I X) k := by
  by_cases g : zt_hid P k
  · rw [zt_vis_t g, zl_vis_t ((zf_hid_iff h).mpr g)]
  · rw [zt_vis_f g, zl_vis_f (fun q => g ((zf_hid_iff h).mp q))]; rfl
theorem zl_vis_sm {P : Int → Int} (h : zv_rep I f P) : zk_sm (zl_vis I (X + 135) f) l = zk_sm (zt_vis P (zr_rz I X)) l := zk_sm_congr (fun k _ _ => zl_vis_iff h)
/-- the line of a row is one -/
theorem zt_line_uniq {P rz : Int → Int} {w t m e r v v' : Int} (hk : zl_rows P w t m e rz) (hP : ∀ k, 0 ≤ k → k < P 0 → 0 ≤ P (1 + k) ∧ P (1 + k) ≤ 40) (hv : 0 ≤ v ∧ v < P 0) (hv' : 0 ≤ v' ∧ v' < P 0) (h1 : zk_sm (zt_vis P rz) v ≤ r) (h2 : r < zk_sm (zt_vis P rz) (v + 1)) (g1 : zk_sm (zt_vis P rz) v' ≤ r) (g2 : r < zk_sm (zt_vis P rz) (v' + 1)) : v = v' := by
  have mono : ∀ a b, 0 ≤ a → a ≤ b → b ≤ P 0 → zk_sm (zt_vis P rz) a ≤ zk_sm (zt_vis P rz) b := fun a b a1 a2 a3 => zk_sm_mono a1 a2 (fun k k1 k2 => (zt_vis_ir hk (by omega) (hP k k1 (by omega)).2).1)
  rcases Int.lt_trichotomy v v' with q | q | q
  · have := mono (v + 1) v' (by omega) (by omega) (by omega); omega
  · exact q
  · have := mono (v' + 1) v (by omega) (by omega) (by omega); omega
/-- a line as it is laid by both -/
theorem zl_both {n w t m ind a x : Int} {s : Int → Int} (hn : 0 ≤ n) (h : zl_pic n w t m ind s I x) (g : zl_mok n w t m ind s J a) : J a 22 = I x 1 ∧ (∀ r, 0 ≤ r → r ≤ I x 1 → J (a + 11) r = I (x + 7) r) ∧ (∀ i, 0 ≤ i → i ≤ n → J (a + 7) i = I (x + 1) i ∧ J (a + 8) i = I (x + 2) i) ∧ ∀ i, 0 ≤ i → i < n → J (a + 9) i = I (x + 3) i ∧ J (a + 10) i = I (x + 4) i := by
  obtain ⟨u1, u2, u3, u4⟩ := zl_uniq hn g.1 h.2.2.1
  exact ⟨u1, fun r r1 r2 => u2 r r1 (by omega), u3, u4⟩
/-- whether it is a stop: both say the same -/
theorem zl_stop_both {n w t m ind a x i : Int} {s : Int → Int} (hn : 0 ≤ n) (h : zl_pic n w t m ind s I x) (g : zl_mok n w t m ind s J a) (hi : 0 ≤ i ∧ i ≤ n) : I (x + 5) i = 1 ↔ zl_isstop n s (J (a + 10)) i := by
  rw [h.2.2.2.1 i hi.1 hi.2, zq1]
  by_cases gi : i = n
  · exact ⟨fun _ => Or.inr (Or.inl gi), fun _ => Or.inr (Or.inl gi)⟩
  · exact zl_isstop_congr ((zl_both hn h g).2.2.2 i hi.1 (by omega)).2.symm
end ZRl
