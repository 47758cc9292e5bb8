/-! behind an edit: all is laid, the caret settles, on both sides -/
section ZSt
variable {d : Nat} {S : zS} {I J K R : zI} {T : Int × Nat} {X M n v l f c k x y z r i p w t m e : Int} {P Q rz : Int → Int}
theorem zz_settled (hc : zs_cl S R X) (hf : R X 6 = f) (hm : zs_mo S R M) (hap : X + 300 ≤ M) (hwf : zw_page P) {J0 K0 : zI} (hd : zc_done J0 J X f P w t m e) (k0 : ∀ q, q < M → K0 q = J q) (k0P : K0 (M + 1) = P) (hmo : zr_mo K0 M) (hw : K0 M 6 = w ∧ K0 M 7 = t ∧ K0 M 8 = m ∧ K0 M 9 = e) (hset : J0 (X + 4) 0 = w ∧ J0 (X + 4) 1 = t ∧ J0 (X + 4) 2 = m ∧ J0 (X + 4) 3 = e) (hft : J0 X 9 = K0 M 13) (htap : zc_tap J0 X (zr_row K0 M)) (hhis : zc_his J0 R X (zr_row K0 M)) (himg : zc_img J0 X (zr_row K0 M)) (hshs : zc_shs J0 X (zr_row K0 M)) : ∃ K, zG (d + 6) 205 [.inr (.inr M)] (S, K0, R, T) = some (0, (S, K, R, T)) ∧ zR4 S K R X M ∧ (∃ v, K (M + 1) = zt_up P 519 v) ∧ (∀ j, j ≠ 22 → j ≠ 23 → j ≠ 10 → K M j = K0 M j) := by
  obtain ⟨K, v, e1, ⟨e2, e3⟩, e4, e5, e6, e7⟩ := zy_settles (d := d) (I := K0) (T := T) hm hmo (by rw [k0P]; exact hwf)
  obtain ⟨v', c, d1, d2, d3, d4, d5, d6⟩ := hd
  have fa6 := zcl_fa6 hc hf
  have lo := zs_fa_lo fa6
  obtain ⟨w6, w7, w8⟩ := hwf.2.2.2.2.2
  have hn := hwf.2.1 _ w6.1 w6.2
  rw [k0P, hw.1, hw.2.1, hw.2.2.1, hw.2.2.2] at e5
  rw [k0P] at e6 e4
  have hs : zl_settle P w t m e v (K (M + 8) v) := ⟨_, _, _, _, _, _, e5.1, e6, rfl⟩
  obtain ⟨hv, hcc⟩ := zl_settle_uniq hn.1 w7 hs d1
  rw [hv] at e4
  have kq : ∀ q, q < M → K q = J q := fun q q1 => (e2 q (by omega) (by omega) (by omega)).trans (k0 q q1)
  have kr : ∀ q, M + 2 ≤ q → (q < M + 7 ∨ M + 11 < q) → K q = K0 q := fun q q1 q2 => e2 q (by omega) (by omega) q2
  have kj : ∀ j, j ≠ 22 → j ≠ 23 → j ≠ 10 → K M j = K0 M j := e3
  have hlow : ∀ q, q ≠ X → q ≠ f → (q < X + 135 ∨ X + 255 ≤ q) → q < M → K q = J0 q := fun q q1 q2 q3 q4 => (kq q q4).trans (d2 q q1 q2 q3)
  refine ⟨K, e1, ⟨hc, hm, hap, ⟨?_, ?_⟩, ?_, fun l l1 l2 => ?_, ?_, ?_, ?_, ?_, ?_⟩, ⟨v', e4⟩, kj⟩
  · rw [hf, zr_row_q, e4]
    exact zv_rep_congr d5.1 (fun q q1 q2 => kq q (by omega))
  · rw [zr_row_q, e4]; exact d5.2
  · unfold zc_set zr_mo at *
    rw [zr_row0, hlow (X + 4) (by omega) (by omega) (by omega) (by omega), kj 6 (by omega) (by omega) (by omega), kj 7 (by omega) (by omega) (by omega), kj 8 (by omega) (by omega) (by omega), kj 9 (by omega) (by omega) (by omega)]
    exact ⟨⟨hset.1.trans hw.1.symm, hset.2.1.trans hw.2.1.symm, hset.2.2.1.trans hw.2.2.1.symm, hset.2.2.2.trans hw.2.2.2.symm⟩, hmo⟩
  · rw [zr_row_q, e4, zt_up_ne (by omega)] at l2
    have h12 := hwf.1
    rw [zr_row_q, zr_row0, e4, kj 6 (by omega) (by omega) (by omega), kj 7 (by omega) (by omega) (by omega), kj 8 (by omega) (by omega) (by omega), kj 9 (by omega) (by omega) (by omega), hw.1, hw.2.1, hw.2.2.1, hw.2.2.2]
    exact zl_laid_mem (d6 l l1 l2) (by omega) (fun q q1 q2 => kq q (by omega))
  · unfold zc_num
    rw [zr_row0]
    refine ⟨?_, ?_⟩
    · rw [kq X (by omega), d4, ← hcc]; exact e7.symm
    · rw [kq X (by omega), d3 9 (by omega), hft, kj 13 (by omega) (by omega) (by omega)]
  · have h5 : zc_tap K X (zr_row K0 M) := zc_tap_I htap (by rw [hlow (X + 1) (by omega) (by omega) (by omega) (by omega)]) (hlow (X + 2) (by omega) (by omega) (by omega) (by omega))
    unfold zc_tap at *
    rw [zr_row0, zr_row_q] at h5 ⊢
    rw [kj 12 (by omega) (by omega) (by omega), kr (M + 5) (by omega) (by omega)]
    exact h5
  · have h6' : zc_his K R X (zr_row K0 M) := zc_his_I hhis (hlow _ (by omega) (by omega) (by omega) (by omega)) (fun k k1 k2 q q1 q2 => by
      have fk := zcl_fas hc ⟨k1, k2⟩
      have lok := zs_fa_lo fk
      have ne := (hc.2.2.2.2.2.2.2.2.2.2.2.1 k k1 k2).1
      rw [hf] at ne
      have ap := zs_fa_ne fk fa6 ne
      exact hlow q (by omega) (by omega) (by omega) (by omega))
    unfold zc_his at *
    rw [zr_row0, zr_row_q, zr_row_q] at h6' ⊢
    rw [kj 4 (by omega) (by omega) (by omega), kj 5 (by omega) (by omega) (by omega), kr (M + 3) (by omega) (by omega), kr (M + 4) (by omega) (by omega)]
    exact h6'
  · have h7' : zc_img K X (zr_row K0 M) := zc_img_I himg (fun q q1 q2 => hlow q (by omega) (by omega) (by omega) (by omega))
    unfold zc_img zc_im1 at *
    rw [zr_row_q, zr_row_q] at h7' ⊢
    rw [kr (M + 12) (by omega) (by omega), kr (M + 13) (by omega) (by omega)]
    exact h7'
  · have h8' : zc_shs K X (zr_row K0 M) := zc_shs_I hshs (fun q q1 q2 => hlow q (by omega) (by omega) (by omega) (by omega))
    unfold zc_shs zc_sh1 at *
    rw [zr_row_q, zr_row_q, zr_row_q] at h8' ⊢
    rw [kr (M + 14) (by omega) (by omega), kr (M + 15) (by omega) (by omega), kr (M + 16) (by omega) (by omega)]
    exact h8'
/-- components, when rows of the reference are others -/
theorem zc_tap_A {A A' : zI} (h : zc_tap I X A) (h0 : A' 0 12 = A 0 12) (h5 : A' 5 = A 5) : zc_tap I X A' := by
  unfold zc_tap at *
  rw [h0, h5]; exact h
theorem zc_img_A {A A' : zI} (h : zc_img I X A) (h12 : A' 12 = A 12) (h13 : A' 13 = A 13) : zc_img I X A' := by
  unfold zc_img zc_im1 at *
  rw [h12, h13]; exact h
theorem zc_shs_A {A A' : zI} (h : zc_shs I X A) (h14 : A' 14 = A 14) (h15 : A' 15 = A 15) (h16 : A' 16 = A 16) : zc_shs I X A' := by
  unfold zc_shs zc_sh1 at *
  rw [h14, h15, h16]; exact h
theorem zc_his_A {A A' : zI} (h : zc_his I R X A) (h4 : A' 0 4 = A 0 4) (h5 : A' 0 5 = A 0 5) (h3 : A' 3 = A 3) (h4' : A' 4 = A 4) : zc_his I R X A' := by
  unfold zc_his at *
  rw [h4, h5, h3, h4']; exact h
theorem zc_set_A {A A' : zI} (h : zc_set I X A) (h6 : A' 0 6 = A 0 6) (h7 : A' 0 7 = A 0 7) (h8 : A' 0 8 = A 0 8) (h9 : A' 0 9 = A 0 9) : zc_set I X A' := by
  unfold zc_set zr_mo at *
  rw [h6, h7, h8, h9]; exact h
theorem zc_num_A {A A' : zI} (h : zc_num I X A) (h6 : A' 0 10 = A 0 10) (h7 : A' 0 13 = A 0 13) : zc_num I X A' := by
  unfold zc_num at *
  rw [h6, h7]; exact h
theorem zc_lay_A {A A' : zI} (h : zc_lay I X A) (h6 : A' 0 6 = A 0 6) (h7 : A' 0 7 = A 0 7) (h8 : A' 0 8 = A 0 8) (h9 : A' 0 9 = A 0 9) (h1 : A' 1 = A 1) : zc_lay I X A' := by
  unfold zc_lay at *
  rw [h6, h7, h8, h9, h1]; exact h
end ZSt
