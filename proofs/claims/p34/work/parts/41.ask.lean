/-! the class: what is asked of what there is, in the reference's numbers -/
theorem zcl_x1 {S : zS} {R : zI} {X : Int} (h : zs_cl S R X) : (S X).1 = 10 := h.1.2
theorem zcl_c0 {S : zS} {R : zI} {X : Int} (h : zs_cl S R X) : R X 0 = X + 1 := h.2.1.1
theorem zcl_c1 {S : zS} {R : zI} {X : Int} (h : zs_cl S R X) : R X 1 = X + 4 := h.2.1.2.1
theorem zcl_c2 {S : zS} {R : zI} {X : Int} (h : zs_cl S R X) : R X 2 = X + 5 := h.2.1.2.2.1
theorem zcl_c3 {S : zS} {R : zI} {X : Int} (h : zs_cl S R X) : R X 3 = X + 135 := h.2.1.2.2.2.1
theorem zcl_ta {S : zS} {R : zI} {X : Int} (h : zs_cl S R X) : zs_ta S R (X + 1) := h.2.2.1
theorem zcl_se {S : zS} {R : zI} {X : Int} (h : zs_cl S R X) : zs_se S (X + 4) := h.2.2.2.1
theorem zcl_hi {S : zS} {R : zI} {X : Int} (h : zs_cl S R X) : zs_hi S R (X + 5) := h.2.2.2.2.1
theorem zcl_sc {S : zS} {R : zI} {X : Int} (h : zs_cl S R X) : zs_sc S R (X + 135) := h.2.2.2.2.2.1
theorem zcl_im {S : zS} {R : zI} {X k : Int} (h : zs_cl S R X) (hk : 0 ≤ k ∧ k < 2) : zs_im S R (X + 272 + 10 * k) := (h.2.2.2.2.2.2.1.2 k hk.1 hk.2).2
theorem zcl_sh {S : zS} {R : zI} {X k : Int} (h : zs_cl S R X) (hk : 0 ≤ k ∧ k < 4) : zs_sh S R (X + 292 + 2 * k) := (h.2.2.2.2.2.2.2.1.2 k hk.1 hk.2).2
theorem zcl_fb {S : zS} {R : zI} {X f : Int} (h : zs_cl S R X) (hf : zs_fb X f) : zs_fr S R f := h.2.2.2.2.2.2.2.2.1 f hf
theorem zcl_fa6 {S : zS} {R : zI} {X f : Int} (h : zs_cl S R X) (hf : R X 6 = f) : zs_fa X f := hf ▸ h.2.2.2.2.2.2.2.2.2.1.1
theorem zcl_fa7 {S : zS} {R : zI} {X f : Int} (h : zs_cl S R X) (hf : R X 7 = f) : zs_fa X f := hf ▸ h.2.2.2.2.2.2.2.2.2.1.2.1
theorem zcl_fas {S : zS} {R : zI} {X k : Int} (h : zs_cl S R X) (hk : 0 ≤ k ∧ k < 16) : zs_fa X (R (X + 6) k) := h.2.2.2.2.2.2.2.2.2.1.2.2 k hk.1 hk.2
theorem zcl_fr {S : zS} {R : zI} {X f : Int} (h : zs_cl S R X) (hf : R X 6 = f) : zs_fr S R f := zcl_fb h (Or.inl (zcl_fa6 h hf))
theorem zfr_k {S : zS} {R : zI} {f : Int} (h : zs_fr S R f) : (S f).1 = 1 := h.2.1
theorem zfr_r0 {S : zS} {R : zI} {f : Int} (h : zs_fr S R f) : R f 0 = f + 1 := h.2.2.1
theorem zfr_r1 {S : zS} {R : zI} {f : Int} (h : zs_fr S R f) : R f 1 = f + 4 := h.2.2.2.1
theorem zfr_li {S : zS} {R : zI} {f : Int} (h : zs_fr S R f) : zs_li S R (f + 1) := h.2.2.2.2.1
theorem zfr_fo {S : zS} {R : zI} {f : Int} (h : zs_fr S R f) : zs_fo S R (f + 4) := h.2.2.2.2.2
theorem zfr_lk {S : zS} {R : zI} {f : Int} (h : zs_fr S R f) : (S (f + 1)).1 = 5 := h.2.2.2.2.1.2.1
theorem zfr_fk {S : zS} {R : zI} {f : Int} (h : zs_fr S R f) : (S (f + 4)).1 = 0 := h.2.2.2.2.2.2.1
section ZAs
variable {d : Nat} {S : zS} {I J R : zI} {T : Int × Nat} {X n v l f c m k x y z r i p w t e : Int} {P : Int → Int}
theorem zzc_has (hF : zs_fr S R f) (hr : zv_rep I f P) : zG (d + 1) 56 [.inr (.inr (f + 1)), .inl l] (S, I, R, T) = some (zq (0 ≤ l ∧ l < P 0), (S, I, R, T)) := by
  rw [zx_Lhas (zfr_li hF), hr.1]
theorem zzc_length (hF : zs_fr S R f) (hr : zv_rep I f P) (hw : zw_page P) (hl : 0 ≤ l ∧ l < P 0) : zG (d + 2) 58 [.inr (.inr (f + 1)), .inl l] (S, I, R, T) = some (P (1 + l), (S, I, R, T)) := by
  have := hw.1
  rw [zx_length (zfr_li hF), show f + 1 + 1 = f + 2 by omega, zk_pk_in (by omega), hr.2.1 l hl.1 hl.2]
theorem zzc_hasPlace (hF : zs_fr S R f) (hr : zv_rep I f P) (hw : zw_page P) : zG (d + 3) 57 [.inr (.inr (f + 1)), .inl l, .inl i] (S, I, R, T) = some (zq ((0 ≤ l ∧ l < P 0) ∧ 0 ≤ i ∧ i ≤ P (1 + l)), (S, I, R, T)) := by
  have h1 := hw.1
  rw [zx_hasPlace (zfr_li hF), show f + 1 + 1 = f + 2 by omega, hr.1]
  refine zr_val (zq_congr ?_)
  by_cases g : 0 ≤ l ∧ l < P 0
  · rw [zk_pk_in (by omega), hr.2.1 l g.1 g.2]
  · exact ⟨fun q => absurd q.1 g, fun q => absurd q.1 g⟩
theorem zzc_signOf (hF : zs_fr S R f) (hr : zv_rep I f P) (hw : zw_page P) (hl : 0 ≤ l ∧ l < P 0) (hi : 0 ≤ i ∧ i < P (1 + l)) : zG (d + 2) 60 [.inr (.inr (f + 1)), .inl l, .inl i] (S, I, R, T) = some (P (13 + 40 * l + i), (S, I, R, T)) := by
  have h1 := hw.1
  have h2 := hw.2.1 l hl.1 hl.2
  rw [zx_signOf (zfr_li hF) (by omega) (by omega), show f + 1 + 2 = f + 3 by omega, zk_pk_in (by omega), hr.2.2.1 l i hl.1 hl.2 hi.1 hi.2]
theorem zzc_total (hF : zs_fr S R f) (hr : zv_rep I f P) (hw : zw_page P) : zG (d + 3) 59 [.inr (.inr (f + 1))] (S, I, R, T) = some (zk_sm (fun l => P (1 + l)) (P 0), (S, I, R, T)) := by
  have h1 := hw.1
  have e : ∀ l, 0 ≤ l → l < P 0 → I (f + 1 + 1) l = P (1 + l) := fun l l1 l2 => by rw [show f + 1 + 1 = f + 2 by omega]; exact hr.2.1 l l1 l2
  rw [zx_total (zfr_li hF) (by rw [hr.1]; omega) (fun j j1 j2 => by rw [hr.1] at j2; rw [e j j1 j2]; exact hw.2.1 j j1 j2), hr.1]
  exact zr_val (zk_sm_congr e)
theorem zzc_hides (hF : zs_fr S R f) (hr : zv_rep I f P) (hw : zw_page P) : zG (d + 3) 8 [.inr (.inr (f + 4)), .inl l] (S, I, R, T) = some (zq (zt_hid P l), (S, I, R, T)) := by
  rw [zx_hides (zfr_fo hF) (by rw [hr.2.2.2.1]; exact hw.2.2.1.2), zq_congr (zf_hid_iff hr)]
theorem zzc_shutsBehind (hF : zs_fr S R f) (hr : zv_rep I f P) (hw : zw_page P) : zG (d + 3) 9 [.inr (.inr (f + 4)), .inl l] (S, I, R, T) = some (zq (zt_beh P l), (S, I, R, T)) := by
  rw [zx_shutsBehind (zfr_fo hF) (by rw [hr.2.2.2.1]; exact hw.2.2.1.2), zq_congr (zf_beh_iff hr)]
theorem zzc_Fhas (hF : zs_fr S R f) (hr : zv_rep I f P) : zG (d + 1) 1 [.inr (.inr (f + 4)), .inl k] (S, I, R, T) = some (zq (0 ≤ k ∧ k < P 493), (S, I, R, T)) := by
  rw [zx_Fhas (zfr_fo hF), hr.2.2.2.1]
theorem zzc_firstOf (hF : zs_fr S R f) (hr : zv_rep I f P) (hw : zw_page P) (hk : 0 ≤ k ∧ k < P 493) : zG (d + 2) 2 [.inr (.inr (f + 4)), .inl k] (S, I, R, T) = some (P (494 + 3 * k), (S, I, R, T)) := by
  have := hw.2.2.1
  rw [zx_firstOf (zfr_fo hF), show f + 4 + 1 = f + 5 by omega, zk_pk_in (by omega), (hr.2.2.2.2.1 k hk.1 hk.2).1]
theorem zzc_lastOf (hF : zs_fr S R f) (hr : zv_rep I f P) (hw : zw_page P) (hk : 0 ≤ k ∧ k < P 493) : zG (d + 2) 3 [.inr (.inr (f + 4)), .inl k] (S, I, R, T) = some (P (495 + 3 * k), (S, I, R, T)) := by
  have := hw.2.2.1
  rw [zx_lastOf (zfr_fo hF), show f + 4 + 2 = f + 6 by omega, zk_pk_in (by omega), (hr.2.2.2.2.1 k hk.1 hk.2).2.1]
theorem zzc_isShut (hF : zs_fr S R f) (hr : zv_rep I f P) (hw : zw_page P) (hk : 0 ≤ k ∧ k < P 493) : zG (d + 2) 4 [.inr (.inr (f + 4)), .inl k] (S, I, R, T) = some (zq (P (496 + 3 * k) = 1), (S, I, R, T)) := by
  have := hw.2.2.1
  rw [zx_isShut (zfr_fo hF), show f + 4 + 3 = f + 7 by omega, zk_pk_in (by omega), (hr.2.2.2.2.1 k hk.1 hk.2).2.2]
theorem zq_id {v : Int} (h : 0 ≤ v ∧ v ≤ 1) : zq (v = 1) = v := by
  by_cases g : v = 1
  · rw [zq_t g, g]
  · rw [zq_f g]; omega
theorem zzc_shutCount (hF : zs_fr S R f) (hr : zv_rep I f P) (hw : zw_page P) : zG (d + 3) 6 [.inr (.inr (f + 4))] (S, I, R, T) = some (zk_sm (fun k => zq (P (496 + 3 * k) = 1)) (P 493), (S, I, R, T)) := by
  have h1 := hw.2.2.1
  have e : ∀ k, 0 ≤ k → k < P 493 → I (f + 4 + 3) k = P (496 + 3 * k) := fun k k1 k2 => by rw [show f + 4 + 3 = f + 7 by omega]; exact (hr.2.2.2.2.1 k k1 k2).2.2
  rw [zx_shutCount (zfr_fo hF) (by rw [hr.2.2.2.1]; omega) (fun j j1 j2 => by rw [hr.2.2.2.1] at j2; rw [e j j1 j2]; exact (hw.2.2.2.1 j j1 j2).2), hr.2.2.2.1]
  exact zr_val (zk_sm_congr (fun k k1 k2 => by rw [e k k1 k2, zq_id (hw.2.2.2.1 k k1 k2).2]))
theorem zzc_depthOf (hF : zs_fr S R f) (hr : zv_rep I f P) (hw : zw_page P) (hk : 0 ≤ k ∧ k < P 493) : zG (d + 3) 7 [.inr (.inr (f + 4)), .inl k] (S, I, R, T) = some (zk_sm (fun j => zq (¬ j = k ∧ zf_in (P (494 + 3 * j)) (P (495 + 3 * j)) (P (494 + 3 * k)) (P (495 + 3 * k)))) (P 493), (S, I, R, T)) := by
  have h1 := hw.2.2.1
  have e1 : ∀ k, 0 ≤ k → k < P 493 → I (f + 4 + 1) k = P (494 + 3 * k) := fun k k1 k2 => by rw [show f + 4 + 1 = f + 5 by omega]; exact (hr.2.2.2.2.1 k k1 k2).1
  have e2 : ∀ k, 0 ≤ k → k < P 493 → I (f + 4 + 2) k = P (495 + 3 * k) := fun k k1 k2 => by rw [show f + 4 + 2 = f + 6 by omega]; exact (hr.2.2.2.2.1 k k1 k2).2.1
  rw [zx_depthOf (zfr_fo hF) (by rw [hr.2.2.2.1]; omega) (by rw [hr.2.2.2.1]; exact hk), hr.2.2.2.1]
  exact zr_val (zk_sm_congr (fun j j1 j2 => by rw [e1 j j1 j2, e2 j j1 j2, e1 k hk.1 hk.2, e2 k hk.1 hk.2]))
theorem zzc_hiddenLines (hF : zs_fr S R f) (hr : zv_rep I f P) (hw : zw_page P) : zG (d + 4) 22 [.inr (.inr f)] (S, I, R, T) = some (zk_sm (fun l => zq (zt_hid P l)) (P 0), (S, I, R, T)) := by
  have h1 := hw.1
  rw [zx_hiddenLines hF (by rw [hr.1]; omega) (by rw [hr.2.2.2.1]; exact hw.2.2.1.2), hr.1]
  exact zr_val (zk_sm_congr (fun l _ _ => zq_congr (zf_hid_iff hr)))
theorem zz_rows (hk : zl_rows P w t m e (zr_rz I X)) (hw : zw_page P) : ∀ k, 0 ≤ k → k < P 0 → 1 ≤ I (X + 135 + 11 + 9 * k) 1 ∧ I (X + 135 + 11 + 9 * k) 1 ≤ 41 := fun k k1 k2 => zl_rows_ir (l := k) hk ⟨k1, k2⟩ (hw.2.1 k k1 k2).2
theorem zzc_firstRowOf (hc : zs_cl S R X) (hF : zs_fr S R f) (hr : zv_rep I f P) (hw : zw_page P) (hk : zl_rows P w t m e (zr_rz I X)) (hl : 0 ≤ l ∧ l ≤ P 0) : zG (d + 4) 80 [.inr (.inr (X + 135)), .inr (.inr f), .inl l] (S, I, R, T) = some (zk_sm (zt_vis P (zr_rz I X)) l, (S, I, R, T)) := by
  have h1 := hw.1
  rw [zx_firstRowOf (zcl_sc hc) hF (by rw [hr.2.2.2.1]; exact hw.2.2.1.2) (by omega) (fun k k1 k2 => zz_rows hk hw k k1 (by omega)), zl_vis_sm hr]
theorem zzc_rowCount (hc : zs_cl S R X) (hF : zs_fr S R f) (hr : zv_rep I f P) (hw : zw_page P) (hk : zl_rows P w t m e (zr_rz I X)) : zG (d + 5) 79 [.inr (.inr (X + 135)), .inr (.inr f)] (S, I, R, T) = some (zk_sm (zt_vis P (zr_rz I X)) (P 0), (S, I, R, T)) := by
  have h1 := hw.1
  rw [zx_rowCount (zcl_sc hc) hF (by rw [hr.2.2.2.1]; exact hw.2.2.1.2) (by rw [hr.1]; omega) (fun k k1 k2 => zz_rows hk hw k k1 (by rw [← hr.1]; exact k2)), zl_vis_sm hr, hr.1]
theorem zzc_rowOf (hc : zs_cl S R X) (hF : zs_fr S R f) (hr : zv_rep I f P) (hw : zw_page P) (hk : zl_rows P w t m e (zr_rz I X)) (hl : 0 ≤ l ∧ l < P 0) (hi : 0 ≤ i ∧ i ≤ 40) (hri : 0 ≤ I (X + 135 + 11 + 9 * l + 1) i ∧ I (X + 135 + 11 + 9 * l + 1) i ≤ 41) : zG (d + 5) 81 [.inr (.inr (X + 135)), .inr (.inr f), .inl l, .inl i] (S, I, R, T) = some (zk_sm (zt_vis P (zr_rz I X)) l + I (X + 135 + 11 + 9 * l + 1) i, (S, I, R, T)) := by
  have h1 := hw.1
  rw [zx_ScrowOf (zcl_sc hc) hF (by rw [hr.2.2.2.1]; exact hw.2.2.1.2) (by omega) (fun k k1 k2 => zz_rows hk hw k k1 (by omega)) hi hri, zl_vis_sm hr]
theorem zzc_lineOfRow (hc : zs_cl S R X) (hF : zs_fr S R f) (hr : zv_rep I f P) (hw : zw_page P) (hk : zl_rows P w t m e (zr_rz I X)) (hri : r < 2147483648) : ∃ v, zG (d + 4) 82 [.inr (.inr (X + 135)), .inr (.inr f), .inl r] (S, I, R, T) = some (v, (S, I, R, T)) ∧ ((¬ (0 ≤ r ∧ r < zk_sm (zt_vis P (zr_rz I X)) (P 0)) ∧ v = -1) ∨ ((0 ≤ r ∧ r < zk_sm (zt_vis P (zr_rz I X)) (P 0)) ∧ (0 ≤ v ∧ v < P 0) ∧ zk_sm (zt_vis P (zr_rz I X)) v ≤ r ∧ r < zk_sm (zt_vis P (zr_rz I X)) (v + 1))) := by
  have h1 := hw.1
  obtain ⟨v, e1, e2⟩ := zx_lineOfRow (d := d) (I := I) (T := T) (r := r) (zcl_sc hc) hF (by rw [hr.2.2.2.1]; exact hw.2.2.1.2) (by rw [hr.1]; omega) (fun k k1 k2 => zz_rows hk hw k k1 (by rw [← hr.1]; exact k2)) hri
  rw [hr.1, zl_vis_sm hr, zl_vis_sm hr, zl_vis_sm hr] at e2
  refine ⟨v, e1, ?_⟩
  rcases e2 with ⟨q1, q2⟩ | ⟨q1, q2⟩ | ⟨q1, q2, q3⟩
  · exact Or.inl ⟨by omega, q2⟩
  · exact Or.inl ⟨by omega, q2⟩
  · have s0 := zt_sm_ir (l := v) hk hw.2.1 ⟨q1.1, by omega⟩
    have s1 := zk_sm_mono (g := zt_vis P (zr_rz I X)) (n := v + 1) (m := P 0) (by omega) (by omega) (fun k k1 k2 => (zt_vis_ir hk ⟨k1, k2⟩ (hw.2.1 k k1 k2).2).1)
    exact Or.inr ⟨by omega, q1, q2, q3⟩
end ZAs
