/-! the reference, asked behind some laying of lines -/
theorem zmo_1 {S : zS} {R : zI} {a : Int} (h : zs_mo S R a) : (S a).1 = 11 := h.1.2
section ZMk
variable {d : Nat} {S : zS} {I J K R : zI} {T : Int × Nat} {M n v l f c k x y z r i p : Int} {rz : Int → Int}
theorem zo_P (ho : zo_ly I K M) : K (M + 1) = I (M + 1) := ho.1 (M + 1) (by omega) (by omega)
theorem zzm_lays (h : zs_mo S R M) (hmo : zr_mo I M) (hw : zw_page (I (M + 1))) (ho : zo_ly I K M) (hl : 0 ≤ l ∧ l < I (M + 1) 0) : ∃ J, zG (d + 5) 180 [.inr (.inr M), .inl l] (S, K, R, T) = some (0, (S, J, R, T)) ∧ zo_ly I J M ∧ zl_mok (I (M + 1) (1 + l)) (I M 6) (I M 7) (I M 8) (zl_ind (I (M + 1) (1 + l)) (I M 6) (I M 7) (I M 8) (I M 9) (zt_sg (I (M + 1)) l)) (zt_sg (I (M + 1)) l) J M := by
  have e := zo_P ho
  have h0 := hw.1
  obtain ⟨J, e1, e2, e3⟩ := zy_lays (d := d) (I := K) (T := T) (l := l) (n := I (M + 1) (1 + l)) h (zo_ly_mo ho hmo) (by omega) (by rw [e]) (hw.2.1 l hl.1 hl.2)
  rw [e, ho.2 6 (by omega) (by omega), ho.2 7 (by omega) (by omega), ho.2 8 (by omega) (by omega), ho.2 9 (by omega) (by omega)] at e3
  exact ⟨J, e1, zo_ly_trans ho e2, e3⟩
theorem zzm_isHidden (h : zs_mo S R M) (hw : zw_page (I (M + 1))) (ho : zo_ly I K M) : zG (d + 2) 162 [.inr (.inr M), .inl l] (S, K, R, T) = some (zq (zt_hid (I (M + 1)) l), (S, K, R, T)) := by
  rw [zy_isHidden h (by rw [zo_P ho]; exact hw.2.2.1.2), zo_P ho]
theorem zzm_len (h : zs_mo S R M) (hw : zw_page (I (M + 1))) (ho : zo_ly I K M) (hl : 0 ≤ l ∧ l < I (M + 1) 0) : zG (d + 1) 157 [.inr (.inr M), .inl l] (S, K, R, T) = some (I (M + 1) (1 + l), (S, K, R, T)) := by
  have := hw.1
  rw [zy_len h (by omega), zo_P ho]
theorem zzm_isLine (h : zs_mo S R M) (hw : zw_page (I (M + 1))) (ho : zo_ly I K M) : zG (d + 2) 190 [.inr (.inr M), .inl l] (S, K, R, T) = some (zq (0 ≤ l ∧ l < I (M + 1) 0), (S, K, R, T)) := by
  have h0 := hw.1
  have e := zo_P ho
  have e0 : K (M + 1) 0 = I (M + 1) 0 := by rw [e]
  rw [zm_190]
  by_cases g : 0 ≤ l ∧ l < I (M + 1) 0
  · ((try simp only [zbd_conv]); simp (disch := first | assumption | omega | trivial) only [↓reduceIte, zbd_some, eq_self, Int.reduceEq, Int.reduceLT, Int.reduceLE, and_self, or_true, true_or, or_false, false_or, if_pos, if_neg, if_true, if_false, true_and, and_true, not_true_eq_false, not_false_eq_true, false_and, and_false, Option.bind_some, zq_t, zq_f, zq0, zq1, zw_id, zmo_1 h, zmo_r0 h, zmo_s1 h, e0, zy_in])
  · ((try simp only [zbd_conv]); simp (disch := first | assumption | omega | trivial) only [↓reduceIte, zbd_some, eq_self, Int.reduceEq, Int.reduceLT, Int.reduceLE, and_self, or_true, true_or, or_false, false_or, if_pos, if_neg, if_true, if_false, true_and, and_true, not_true_eq_false, not_false_eq_true, false_and, and_false, Option.bind_some, zq_t, zq_f, zq0, zq1, zw_id, zmo_1 h, zmo_r0 h, zmo_s1 h, e0, zy_in])
theorem zzm_rows (ho : zo_ly I K M) (hk : zl_rows (I (M + 1)) (I M 6) (I M 7) (I M 8) (I M 9) rz) : zl_rows (K (M + 1)) (K M 6) (K M 7) (K M 8) (K M 9) rz := zl_rows_J ho hk
theorem zzm_firstRow (h : zs_mo S R M) (hmo : zr_mo I M) (hw : zw_page (I (M + 1))) (hk : zl_rows (I (M + 1)) (I M 6) (I M 7) (I M 8) (I M 9) rz) (ho : zo_ly I K M) (hl : 0 ≤ l ∧ l ≤ I (M + 1) 0) : ∃ J, zG (d + 7) 183 [.inr (.inr M), .inl l] (S, K, R, T) = some (zk_sm (zt_vis (I (M + 1)) rz) l, (S, J, R, T)) ∧ zo_ly I J M := by
  have e := zo_P ho
  obtain ⟨J, e1, e2⟩ := zy_firstRow (d := d) (I := K) (T := T) (l := l) h (zo_ly_mo ho hmo) (by rw [e]; exact hw) (by rw [e]; exact hl) (zl_rows_J ho hk)
  rw [e] at e1
  exact ⟨J, e1, zo_ly_trans ho e2⟩
theorem zzm_screenRows (h : zs_mo S R M) (hmo : zr_mo I M) (hw : zw_page (I (M + 1))) (hk : zl_rows (I (M + 1)) (I M 6) (I M 7) (I M 8) (I M 9) rz) (ho : zo_ly I K M) : ∃ J, zG (d + 8) 184 [.inr (.inr M)] (S, K, R, T) = some (zk_sm (zt_vis (I (M + 1)) rz) (I (M + 1) 0), (S, J, R, T)) ∧ zo_ly I J M := by
  have e := zo_P ho
  obtain ⟨J, e1, e2⟩ := zy_screenRows (d := d) (I := K) (T := T) h (zo_ly_mo ho hmo) (by rw [e]; exact hw) (zl_rows_J ho hk)
  rw [e] at e1
  exact ⟨J, e1, zo_ly_trans ho e2⟩
theorem zzm_isRow (h : zs_mo S R M) (hmo : zr_mo I M) (hw : zw_page (I (M + 1))) (hk : zl_rows (I (M + 1)) (I M 6) (I M 7) (I M 8) (I M 9) rz) (ho : zo_ly I K M) : ∃ J, zG (d + 9) 194 [.inr (.inr M), .inl r] (S, K, R, T) = some (zq (0 ≤ r ∧ r < zk_sm (zt_vis (I (M + 1)) rz) (I (M + 1) 0)), (S, J, R, T)) ∧ zo_ly I J M := by
  have e := zo_P ho
  obtain ⟨J, e1, e2⟩ := zy_isRow (d := d) (I := K) (T := T) (r := r) h (zo_ly_mo ho hmo) (by rw [e]; exact hw) (zl_rows_J ho hk)
  rw [e] at e1
  exact ⟨J, e1, zo_ly_trans ho e2⟩
theorem zzm_lineOfRow (h : zs_mo S R M) (hmo : zr_mo I M) (hw : zw_page (I (M + 1))) (hk : zl_rows (I (M + 1)) (I M 6) (I M 7) (I M 8) (I M 9) rz) (ho : zo_ly I K M) (hr : 0 ≤ r ∧ r < zk_sm (zt_vis (I (M + 1)) rz) (I (M + 1) 0)) : ∃ J v, zG (d + 7) 185 [.inr (.inr M), .inl r] (S, K, R, T) = some (v, (S, J, R, T)) ∧ zo_ly I J M ∧ (0 ≤ v ∧ v < I (M + 1) 0) ∧ zk_sm (zt_vis (I (M + 1)) rz) v ≤ r ∧ r < zk_sm (zt_vis (I (M + 1)) rz) (v + 1) := by
  have e := zo_P ho
  obtain ⟨J, v, e1, e2, e3⟩ := zy_lineOfRow (d := d) (I := K) (T := T) (r := r) h (zo_ly_mo ho hmo) (by rw [e]; exact hw) (zl_rows_J ho hk) (by rw [e]; exact hr)
  rw [e] at e3
  exact ⟨J, v, e1, zo_ly_trans ho e2, e3⟩
end ZMk
/-- one call, made to both: they answer the same, and tell the same behind it -/
def zz_ok (d : Nat) (S : zS) (I R : zI) (T : Int × Nat) (X M : Int) (jc jm : Nat) (args : List zV) : Prop := ∃ v J R' K, zG d jc (.inr (.inr X) :: args) (S, I, R, T) = some (v, (S, J, R', T)) ∧ zG d jm (.inr (.inr M) :: args) (S, J, R', T) = some (v, (S, K, R', T)) ∧ zR4 S K R' X M
theorem zz_read {d : Nat} {S : zS} {I K R : zI} {T : Int × Nat} {X M v : Int} {jc jm : Nat} {args : List zV} (h : zR4 S I R X M) (h1 : zG d jc (.inr (.inr X) :: args) (S, I, R, T) = some (v, (S, I, R, T))) (h2 : zG d jm (.inr (.inr M) :: args) (S, I, R, T) = some (v, (S, K, R, T))) (ho : zo_ly I K M) : zz_ok d S I R T X M jc jm args := ⟨v, I, R, K, h1, h2, zR4_ly h ho⟩
theorem zv_to {S : zS} {J R : zI} {T : Int × Nat} {r : zR} {v w : Int} (h : r = some (v, (S, J, R, T))) (e : v = w) : r = some (w, (S, J, R, T)) := by rw [h, e]
