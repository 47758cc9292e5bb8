/-! the caret goes -/
section ZMv
variable {d : Nat} {S : zS} {I J K R : zI} {T : Int × Nat} {X M n v l f c k x y z r i p w t m e : Int} {P rz : Int → Int}
theorem zzc_caretRow (hc : zs_cl S R X) (hf : R X 6 = f) (hrep : zv_rep I f P) (hwf : zw_page P) (hrz : zl_rows P w t m e (zr_rz I X)) (hrow : 0 ≤ I (X + 135 + 11 + 9 * P 518 + 1) (P 519) ∧ I (X + 135 + 11 + 9 * P 518 + 1) (P 519) ≤ 41) : zG (d + 6) 129 [.inr (.inr X)] (S, I, R, T) = some (zk_sm (zt_vis P (zr_rz I X)) (P 518) + I (X + 135 + 11 + 9 * P 518 + 1) (P 519), (S, I, R, T)) := by
  have hF := zcl_fr hc hf
  obtain ⟨w6, w7, w8⟩ := hwf.2.2.2.2.2
  have hn := hwf.2.1 _ w6.1 w6.2
  have c6 : I f 2 = P 518 := hrep.2.2.2.2.2.1
  have c7 : I f 3 = P 519 := hrep.2.2.2.2.2.2
  rw [zm_129]
  ((try simp only [zbd_conv]); simp (disch := first | assumption | omega | trivial) only [↓reduceIte, zbd_some, eq_self, Int.reduceEq, Int.reduceLT, Int.reduceLE, and_self, or_true, true_or, or_false, false_or, if_pos, if_neg, if_true, if_false, true_and, and_true, not_true_eq_false, not_false_eq_true, false_and, and_false, Option.bind_some, zq_t, zq_f, zq0, zq1, zw_id, zcl_x1 hc, hf, zfr_k hF, zfr_r0 hF, zfr_r1 hF, zfr_lk hF, zfr_fk hF, zcl_c3 hc, (zcl_sc hc).2.1, c6, c7, zzc_rowOf hc hF hrep hwf hrz w6 (show 0 ≤ P 519 ∧ P 519 ≤ 40 by omega) hrow])
theorem zl_pic_row {ind a : Int} {s : Int → Int} (hp : zl_pic n w t m ind s I a) (hn : 0 ≤ n ∧ n ≤ 40) (ht : 1 ≤ t ∧ t ≤ 8) (hi : 0 ≤ ind ∧ ind ≤ 20) (hx : 0 ≤ i ∧ i ≤ n) : 0 ≤ I (a + 1) i ∧ I (a + 1) i < I a 1 ∧ I a 1 ≤ 41 ∧ 0 ≤ I (a + 2) i ∧ I (a + 2) i ≤ 400 := by
  have hcol := zl_cols hp.2.2.1 hn ht hi
  have hr1 := hp.2.2.1.1
  by_cases gi : i = n
  · rw [gi]; have := hcol.2; omega
  · have := hcol.1 i hx.1 (by omega); omega
end ZMv
