/-! the reference: what is asked of a page that is laid -/
/-- how many rows each line has -/
def zl_rows (P : Int → Int) (w t m e : Int) (rz : Int → Int) : Prop := ∀ l, 0 ≤ l → l < P 0 → ∃ rA cA ceA hA rB : Int → Int, zl_ok (P (1 + l)) w t m (zl_ind (P (1 + l)) w t m e (zt_sg P l)) (zt_sg P l) (rz l) rA cA ceA hA rB
noncomputable def zt_vis (P rz : Int → Int) (k : Int) : Int := zt_if (zt_hid P k) 0 (rz k)
theorem zt_vis_t {P rz : Int → Int} {k : Int} (h : zt_hid P k) : zt_vis P rz k = 0 := zt_if_t h
theorem zt_vis_f {P rz : Int → Int} {k : Int} (h : ¬ zt_hid P k) : zt_vis P rz k = rz k := zt_if_f h
theorem zl_rows_ir {P rz : Int → Int} {w t m e l : Int} (h : zl_rows P w t m e rz) (hl : 0 ≤ l ∧ l < P 0) (hn : P (1 + l) ≤ 40) : 1 ≤ rz l ∧ rz l ≤ 41 := by
  obtain ⟨_, _, _, _, _, q, -⟩ := h l hl.1 hl.2
  omega
theorem zt_vis_ir {P rz : Int → Int} {w t m e l : Int} (h : zl_rows P w t m e rz) (hl : 0 ≤ l ∧ l < P 0) (hn : P (1 + l) ≤ 40) : 0 ≤ zt_vis P rz l ∧ zt_vis P rz l ≤ 41 := by
  have := zl_rows_ir h hl hn
  by_cases g : zt_hid P l
  · rw [zt_vis_t g]; omega
  · rw [zt_vis_f g]; omega
theorem zt_sm_ir {P rz : Int → Int} {w t m e l : Int} (h : zl_rows P w t m e rz) (hP : ∀ k, 0 ≤ k → k < P 0 → 0 ≤ P (1 + k) ∧ P (1 + k) ≤ 40) (hl : 0 ≤ l ∧ l ≤ P 0) : 0 ≤ zk_sm (zt_vis P rz) l ∧ zk_sm (zt_vis P rz) l ≤ l * 41 := zk_sm_ir hl.1 (fun k k1 k2 => zt_vis_ir h (by omega) (hP k k1 (by omega)).2)
section ZMr
variable {d : Nat} {S : zS} {I J R : zI} {T : Int × Nat} {a b n v l f c m k x y z r i p col w t e : Int} {rz : Int → Int}
theorem zy_rowsOf (h : zs_mo S R a) (hr : zr_mo I a) (hl : 0 ≤ l ∧ l < 12) (hn2 : 0 ≤ I (a + 1) (1 + l) ∧ I (a + 1) (1 + l) ≤ 40) (hl2 : l < I (a + 1) 0) (hk : zl_rows (I (a + 1)) (I a 6) (I a 7) (I a 8) (I a 9) rz) : ∃ J, zG (d + 6) 182 [.inr (.inr a), .inl l] (S, I, R, T) = some (rz l, (S, J, R, T)) ∧ zo_ly I J a := by
  have h1 := h.1.2
  obtain ⟨J, e1, e2, e3⟩ := zy_lays (d := d) (I := I) (T := T) h hr hl rfl hn2
  obtain ⟨rA, cA, ceA, hA, rB, e4⟩ := hk l hl.1 hl2
  have e5 := (zl_uniq hn2.1 e3.1 e4).1
  rw [zm_182]
  ((try simp only [zbd_conv]); simp (disch := first | assumption | omega | trivial) only [↓reduceIte, zbd_some, eq_self, Int.reduceEq, Int.reduceLT, Int.reduceLE, and_self, or_true, true_or, or_false, false_or, if_pos, if_neg, if_true, if_false, true_and, and_true, not_true_eq_false, not_false_eq_true, false_and, and_false, Option.bind_some, zq_t, zq_f, zq0, zq1, zw_id, h1, e1])
  rw [e5]
  exact ⟨J, rfl, e2⟩
theorem zl_rows_J (ho : zo_ly I J a) (hk : zl_rows (I (a + 1)) (I a 6) (I a 7) (I a 8) (I a 9) rz) : zl_rows (J (a + 1)) (J a 6) (J a 7) (J a 8) (J a 9) rz := by
  rw [ho.1 (a + 1) (by omega) (by omega), ho.2 6 (by omega) (by omega), ho.2 7 (by omega) (by omega), ho.2 8 (by omega) (by omega), ho.2 9 (by omega) (by omega)]
  exact hk
theorem zy_firstRow (h : zs_mo S R a) (hr : zr_mo I a) (hw : zw_page (I (a + 1))) (hl : 0 ≤ l ∧ l ≤ I (a + 1) 0) (hk : zl_rows (I (a + 1)) (I a 6) (I a 7) (I a 8) (I a 9) rz) : ∃ J, zG (d + 7) 183 [.inr (.inr a), .inl l] (S, I, R, T) = some (zk_sm (zt_vis (I (a + 1)) rz) l, (S, J, R, T)) ∧ zo_ly I J a := by
  have h1 := h.1.2
  obtain ⟨w1, w2, w3, w4, w5, w6, w7⟩ := hw
  rw [zm_183]
  have key : ∀ (w : Nat) (k : Int) (M : zI), 0 ≤ k → k ≤ l → zo_ly I M a → (l - k).toNat < w → ∃ J, zi_run zt_183 (zG (d + 6)) w 4 [some (.inr (.inr a)), some (.inl l), some (.inl (zk_sm (zt_vis (I (a + 1)) rz) k)), some (.inl k)] [] (S, M, R, T) = some (zk_sm (zt_vis (I (a + 1)) rz) l, (S, J, R, T)) ∧ zo_ly I J a := by
    intro w
    induction w with
    | zero => intro k _ _ _ _ q; omega
    | succ w ih =>
      intro k M k1 k2 ho k3
      have mp : M (a + 1) = I (a + 1) := ho.1 (a + 1) (by omega) (by omega)
      rw [zk_183_4]
      by_cases hkl : k < l
      · have hs := zt_sm_ir (l := k) hk w2 (by omega)
        have hS := zk_smS (g := zt_vis (I (a + 1)) rz) k1
        have hri := zl_rows_ir hk (show 0 ≤ k ∧ k < I (a + 1) 0 by omega) (w2 k k1 (by omega)).2
        have hh : zG (d + 6) 162 [.inr (.inr a), .inl k] (S, M, R, T) = some (zq (zt_hid (I (a + 1)) k), (S, M, R, T)) := by
          rw [zy_isHidden h (by rw [mp]; omega), mp]
        by_cases g : zt_hid (I (a + 1)) k
        · have nx := ih (k + 1) M (by omega) (by omega) ho (by omega)
          rw [hS, zt_vis_t g] at nx
          ((try simp only [zbd_conv]); simp (disch := first | assumption | omega | trivial) only [↓reduceIte, zbd_some, eq_self, Int.reduceEq, Int.reduceLT, Int.reduceLE, and_self, or_true, true_or, or_false, false_or, if_pos, if_neg, if_true, if_false, true_and, and_true, not_true_eq_false, not_false_eq_true, false_and, and_false, Option.bind_some, zq_t, zq_f, zq0, zq1, zw_id, h1, hh])
          exact nx
        · obtain ⟨J, e1, e2⟩ := zy_rowsOf (d := d) (I := M) (T := T) (l := k) h (zo_ly_mo ho hr) (by omega) (by rw [mp]; exact w2 k k1 (by omega)) (by rw [mp]; omega) (zl_rows_J ho hk)
          have nx := ih (k + 1) J (by omega) (by omega) (zo_ly_trans ho e2) (by omega)
          rw [hS, zt_vis_f g] at nx
          ((try simp only [zbd_conv]); simp (disch := first | assumption | omega | trivial) only [↓reduceIte, zbd_some, eq_self, Int.reduceEq, Int.reduceLT, Int.reduceLE, and_self, or_true, true_or, or_false, false_or, if_pos, if_neg, if_true, if_false, true_and, and_true, not_true_eq_false, not_false_eq_true, false_and, and_false, Option.bind_some, zq_t, zq_f, zq0, zq1, zw_id, h1, hh, e1])
          exact nx
      · obtain rfl : k = l := by omega
        ((try simp only [zbd_conv]); simp (disch := first | assumption | omega | trivial) only [↓reduceIte, zbd_some, eq_self, Int.reduceEq, Int.reduceLT, Int.reduceLE, and_self, or_true, true_or, or_false, false_or, if_pos, if_neg, if_true, if_false, true_and, and_true, not_true_eq_false, not_false_eq_true, false_and, and_false, Option.bind_some, zq_t, zq_f, zq0, zq1, zw_id])
        exact ⟨M, rfl, ho⟩
  have := key 19999 0 I (by omega) hl.1 zo_ly_refl (by omega)
  rw [zk_sm0 (show (0 : Int) ≤ 0 by omega)] at this
  exact this
theorem zy_screenRows (h : zs_mo S R a) (hr : zr_mo I a) (hw : zw_page (I (a + 1))) (hk : zl_rows (I (a + 1)) (I a 6) (I a 7) (I a 8) (I a 9) rz) : ∃ J, zG (d + 8) 184 [.inr (.inr a)] (S, I, R, T) = some (zk_sm (zt_vis (I (a + 1)) rz) (I (a + 1) 0), (S, J, R, T)) ∧ zo_ly I J a := by
  have h1 := h.1.2
  have h0 := h.1.1
  obtain ⟨J, e1, e2⟩ := zy_firstRow (d := d) (I := I) (T := T) (l := I (a + 1) 0) h hr hw ⟨by have := hw.1; omega, Int.le_refl _⟩ hk
  rw [zm_184]
  ((try simp only [zbd_conv]); simp (disch := first | assumption | omega | trivial) only [↓reduceIte, zbd_some, eq_self, Int.reduceEq, Int.reduceLT, Int.reduceLE, and_self, or_true, true_or, or_false, false_or, if_pos, if_neg, if_true, if_false, true_and, and_true, not_true_eq_false, not_false_eq_true, false_and, and_false, Option.bind_some, zq_t, zq_f, zq0, zq1, zw_id, h1, zmo_r0 h, zmo_s1 h, e1])
  exact ⟨J, rfl, e2⟩
theorem zy_isRow (h : zs_mo S R a) (hr : zr_mo I a) (hw : zw_page (I (a + 1))) (hk : zl_rows (I (a + 1)) (I a 6) (I a 7) (I a 8) (I a 9) rz) : ∃ J, zG (d + 9) 194 [.inr (.inr a), .inl r] (S, I, R, T) = some (zq (0 ≤ r ∧ r < zk_sm (zt_vis (I (a + 1)) rz) (I (a + 1) 0)), (S, J, R, T)) ∧ zo_ly I J a := by
  obtain ⟨J, e1, e2⟩ := zy_screenRows (d := d) (I := I) (T := T) h hr hw hk
  have hs := zt_sm_ir (l := I (a + 1) 0) hk hw.2.1 ⟨by have := hw.1; omega, Int.le_refl _⟩
  have h12 := hw.1
  have h1 := h.1.2
  obtain ⟨q, hq⟩ : ∃ q, q = zk_sm (zt_vis (I (a + 1)) rz) (I (a + 1) 0) := ⟨_, rfl⟩
  rw [← hq] at e1 hs ⊢
  rw [zm_194]
  by_cases g : 0 ≤ r ∧ r < q
  · ((try simp only [zbd_conv]); simp (disch := first | assumption | omega | trivial) only [↓reduceIte, zbd_some, eq_self, Int.reduceEq, Int.reduceLT, Int.reduceLE, and_self, or_true, true_or, or_false, false_or, if_pos, if_neg, if_true, if_false, true_and, and_true, not_true_eq_false, not_false_eq_true, false_and, and_false, Option.bind_some, zq_t, zq_f, zq0, zq1, zw_id, h1, e1, zy_in])
    exact ⟨J, rfl, e2⟩
  · ((try simp only [zbd_conv]); simp (disch := first | assumption | omega | trivial) only [↓reduceIte, zbd_some, eq_self, Int.reduceEq, Int.reduceLT, Int.reduceLE, and_self, or_true, true_or, or_false, false_or, if_pos, if_neg, if_true, if_false, true_and, and_true, not_true_eq_false, not_false_eq_true, false_and, and_false, Option.bind_some, zq_t, zq_f, zq0, zq1, zw_id, h1, e1, zy_in])
    exact ⟨J, rfl, e2⟩
theorem zy_lineOfRow (h : zs_mo S R a) (hr : zr_mo I a) (hw : zw_page (I (a + 1))) (hk : zl_rows (I (a + 1)) (I a 6) (I a 7) (I a 8) (I a 9) rz) (hrr : 0 ≤ r ∧ r < zk_sm (zt_vis (I (a + 1)) rz) (I (a + 1) 0)) : ∃ J v, zG (d + 7) 185 [.inr (.inr a), .inl r] (S, I, R, T) = some (v, (S, J, R, T)) ∧ zo_ly I J a ∧ (0 ≤ v ∧ v < I (a + 1) 0) ∧ zk_sm (zt_vis (I (a + 1)) rz) v ≤ r ∧ r < zk_sm (zt_vis (I (a + 1)) rz) (v + 1) := by
  have h1 := h.1.2
  obtain ⟨w1, w2, w3, w4, w5, w6, w7⟩ := hw
  rw [zm_185]
  have key : ∀ (w : Nat) (k : Int) (M : zI), 0 ≤ k → k ≤ I (a + 1) 0 → zk_sm (zt_vis (I (a + 1)) rz) k ≤ r → zo_ly I M a → (I (a + 1) 0 - k).toNat < w → ∃ J v, zi_run zt_185 (zG (d + 6)) w 4 [some (.inr (.inr a)), none, some (.inl k), some (.inl (r - zk_sm (zt_vis (I (a + 1)) rz) k))] [] (S, M, R, T) = some (v, (S, J, R, T)) ∧ zo_ly I J a ∧ (0 ≤ v ∧ v < I (a + 1) 0) ∧ zk_sm (zt_vis (I (a + 1)) rz) v ≤ r ∧ r < zk_sm (zt_vis (I (a + 1)) rz) (v + 1) := by
    intro w
    induction w with
    | zero => intro k _ _ _ _ _ q; omega
    | succ w ih =>
      intro k M k1 k2 k4 ho k3
      have mp : M (a + 1) = I (a + 1) := ho.1 (a + 1) (by omega) (by omega)
      have hkl : k < I (a + 1) 0 := by
        by_cases q : k = I (a + 1) 0
        · rw [q] at k4; omega
        · omega
      rw [zk_185_4]
      have hs := zt_sm_ir (l := k) hk w2 (by omega)
      have hsN := zt_sm_ir (l := I (a + 1) 0) hk w2 (by omega)
      have hS := zk_smS (g := zt_vis (I (a + 1)) rz) k1
      have hri := zl_rows_ir hk (show 0 ≤ k ∧ k < I (a + 1) 0 by omega) (w2 k k1 (by omega)).2
      have hh : ∀ J, zo_ly I J a → zG (d + 6) 162 [.inr (.inr a), .inl k] (S, J, R, T) = some (zq (zt_hid (I (a + 1)) k), (S, J, R, T)) := fun J hJ => by
        have jp : J (a + 1) = I (a + 1) := hJ.1 (a + 1) (by omega) (by omega)
        rw [zy_isHidden h (by rw [jp]; omega), jp]
      by_cases g : zt_hid (I (a + 1)) k
      · have nx := ih (k + 1) M (by omega) (by omega) (by rw [hS, zt_vis_t g]; omega) ho (by omega)
        rw [hS, zt_vis_t g] at nx
        ((try simp only [zbd_conv]); simp (disch := first | assumption | omega | trivial) only [↓reduceIte, zbd_some, eq_self, Int.reduceEq, Int.reduceLT, Int.reduceLE, and_self, or_true, true_or, or_false, false_or, if_pos, if_neg, if_true, if_false, true_and, and_true, not_true_eq_false, not_false_eq_true, false_and, and_false, Option.bind_some, zq_t, zq_f, zq0, zq1, zw_id, h1, hh M ho])
        rw [show r - zk_sm (zt_vis (I (a + 1)) rz) k - 0 = r - (zk_sm (zt_vis (I (a + 1)) rz) k + 0) by omega]
        exact nx
      · obtain ⟨J, e1, e2⟩ := zy_rowsOf (d := d) (I := M) (T := T) (l := k) h (zo_ly_mo ho hr) (by omega) (by rw [mp]; exact w2 k k1 (by omega)) (by rw [mp]; omega) (zl_rows_J ho hk)
        have ho2 := zo_ly_trans ho e2
        by_cases g2 : r - zk_sm (zt_vis (I (a + 1)) rz) k < rz k
        · ((try simp only [zbd_conv]); simp (disch := first | assumption | omega | trivial) only [↓reduceIte, zbd_some, eq_self, Int.reduceEq, Int.reduceLT, Int.reduceLE, and_self, or_true, true_or, or_false, false_or, if_pos, if_neg, if_true, if_false, true_and, and_true, not_true_eq_false, not_false_eq_true, false_and, and_false, Option.bind_some, zq_t, zq_f, zq0, zq1, zw_id, h1, hh M ho, e1])
          exact ⟨J, k, rfl, ho2, ⟨k1, hkl⟩, k4, by rw [hS, zt_vis_f g]; omega⟩
        · have jp : J (a + 1) = I (a + 1) := ho2.1 (a + 1) (by omega) (by omega)
          obtain ⟨J2, f1, f2⟩ := zy_rowsOf (d := d) (I := J) (T := T) (l := k) h (zo_ly_mo ho2 hr) (by omega) (by rw [jp]; exact w2 k k1 (by omega)) (by rw [jp]; omega) (zl_rows_J ho2 hk)
          have nx := ih (k + 1) J2 (by omega) (by omega) (by rw [hS, zt_vis_f g]; omega) (zo_ly_trans ho2 f2) (by omega)
          rw [hS, zt_vis_f g] at nx
          ((try simp only [zbd_conv]); simp (disch := first | assumption | omega | trivial) only [↓reduceIte, zbd_some, eq_self, Int.reduceEq, Int.reduceLT, Int.reduceLE, and_self, or_true, true_or, or_false, false_or, if_pos, if_neg, if_true, if_false, true_and, and_true, not_true_eq_false, not_false_eq_true, false_and, and_false, Option.bind_some, zq_t, zq_f, zq0, zq1, zw_id, h1, hh M ho, hh J ho2, e1, f1])
          rw [show r - zk_sm (zt_vis (I (a + 1)) rz) k - rz k = r - (zk_sm (zt_vis (I (a + 1)) rz) k + rz k) by omega]
          exact nx
  have := key 19999 0 I (by omega) (by omega) (by rw [zk_sm0 (show (0 : Int) ≤ 0 by omega)]; exact hrr.1) zo_ly_refl (by omega)
  rw [zk_sm0 (show (0 : Int) ≤ 0 by omega), show r - 0 = r by omega] at this
  exact this
theorem zy_signs (h : zs_mo S R a) (hw : zw_page (I (a + 1))) : zG (d + 2) 186 [.inr (.inr a)] (S, I, R, T) = some (zk_sm (fun l => I (a + 1) (1 + l)) (I (a + 1) 0), (S, I, R, T)) := by
  have h1 := h.1.2
  have h0 := h.1.1
  obtain ⟨w1, w2, w3, w4, w5, w6, w7⟩ := hw
  rw [zm_186]
  refine zl_sum (n := I (a + 1) 0) (g := fun l => I (a + 1) (1 + l)) (run := fun w k s => zi_run zt_186 (zG (d + 1)) w 4 [some (.inr (.inr a)), some (.inl s), some (.inl k)] [] (S, I, R, T)) (by omega) (fun w k k0 k1 => ?_) (fun w => ?_) (by omega) <;> (show zi_run _ _ _ _ _ _ _ = _) <;> rw [zk_186_4]
  · have hs := zk_sm_ir (g := fun l => I (a + 1) (1 + l)) (m := 40) k0 (fun j j1 j2 => w2 j j1 (by omega))
    have hk := w2 k k0 k1
    generalize zk_sm _ k = s at hs ⊢
    ((try simp only [zbd_conv]); simp (disch := first | assumption | omega | trivial) only [↓reduceIte, zbd_some, eq_self, Int.reduceEq, Int.reduceLT, Int.reduceLE, and_self, or_true, true_or, or_false, false_or, if_pos, if_neg, if_true, if_false, true_and, and_true, not_true_eq_false, not_false_eq_true, false_and, and_false, Option.bind_some, zq_t, zq_f, zq0, zq1, zw_id, h1, zmo_r0 h, zmo_s1 h, zy_len h])
  · generalize zk_sm _ (I (a + 1) 0) = s
    ((try simp only [zbd_conv]); simp (disch := first | assumption | omega | trivial) only [↓reduceIte, zbd_some, eq_self, Int.reduceEq, Int.reduceLT, Int.reduceLE, and_self, or_true, true_or, or_false, false_or, if_pos, if_neg, if_true, if_false, true_and, and_true, not_true_eq_false, not_false_eq_true, false_and, and_false, Option.bind_some, zq_t, zq_f, zq0, zq1, zw_id, h1, zmo_r0 h, zmo_s1 h])
theorem zy_hiddenLines (h : zs_mo S R a) (hw : zw_page (I (a + 1))) : zG (d + 3) 187 [.inr (.inr a)] (S, I, R, T) = some (zk_sm (fun l => zq (zt_hid (I (a + 1)) l)) (I (a + 1) 0), (S, I, R, T)) := by
  have h1 := h.1.2
  have h0 := h.1.1
  obtain ⟨w1, w2, w3, w4, w5, w6, w7⟩ := hw
  rw [zm_187]
  refine zl_sum (n := I (a + 1) 0) (g := fun l => zq (zt_hid (I (a + 1)) l)) (run := fun w k s => zi_run zt_187 (zG (d + 2)) w 4 [some (.inr (.inr a)), some (.inl s), some (.inl k)] [] (S, I, R, T)) (by omega) (fun w k k0 k1 => ?_) (fun w => ?_) (by omega) <;> (show zi_run _ _ _ _ _ _ _ = _) <;> rw [zk_187_4]
  · have hs := zk_sm_ir (g := fun l => zq (zt_hid (I (a + 1)) l)) (m := 1) k0 (fun j _ _ => by have := zq01 (P := zt_hid (I (a + 1)) j); show 0 ≤ zq _ ∧ zq _ ≤ 1; omega)
    generalize zk_sm _ k = s at hs ⊢
    by_cases p : zt_hid (I (a + 1)) k
    · ((try simp only [zbd_conv]); simp (disch := first | assumption | omega | trivial) only [↓reduceIte, zbd_some, eq_self, Int.reduceEq, Int.reduceLT, Int.reduceLE, and_self, or_true, true_or, or_false, false_or, if_pos, if_neg, if_true, if_false, true_and, and_true, not_true_eq_false, not_false_eq_true, false_and, and_false, Option.bind_some, zq_t, zq_f, zq0, zq1, zw_id, h1, zmo_r0 h, zmo_s1 h, zy_isHidden h w3.2])
    · ((try simp only [zbd_conv]); simp (disch := first | assumption | omega | trivial) only [↓reduceIte, zbd_some, eq_self, Int.reduceEq, Int.reduceLT, Int.reduceLE, and_self, or_true, true_or, or_false, false_or, if_pos, if_neg, if_true, if_false, true_and, and_true, not_true_eq_false, not_false_eq_true, false_and, and_false, Option.bind_some, zq_t, zq_f, zq0, zq1, zw_id, h1, zmo_r0 h, zmo_s1 h, zy_isHidden h w3.2])
  · generalize zk_sm _ (I (a + 1) 0) = s
    ((try simp only [zbd_conv]); simp (disch := first | assumption | omega | trivial) only [↓reduceIte, zbd_some, eq_self, Int.reduceEq, Int.reduceLT, Int.reduceLE, and_self, or_true, true_or, or_false, false_or, if_pos, if_neg, if_true, if_false, true_and, and_true, not_true_eq_false, not_false_eq_true, false_and, and_false, Option.bind_some, zq_t, zq_f, zq0, zq1, zw_id, h1, zmo_r0 h, zmo_s1 h])
theorem zy_shutFolds (h : zs_mo S R a) (hw : zw_page (I (a + 1))) : zG (d + 2) 188 [.inr (.inr a)] (S, I, R, T) = some (zk_sm (fun k => zq (I (a + 1) (496 + 3 * k) = 1)) (I (a + 1) 493), (S, I, R, T)) := by
  have h1 := h.1.2
  have h0 := h.1.1
  obtain ⟨w1, w2, w3, w4, w5, w6, w7⟩ := hw
  rw [zm_188]
  refine zl_sum (n := I (a + 1) 493) (g := fun k => zq (I (a + 1) (496 + 3 * k) = 1)) (run := fun w k s => zi_run zt_188 (zG (d + 1)) w 4 [some (.inr (.inr a)), some (.inl s), some (.inl k)] [] (S, I, R, T)) (by omega) (fun w k k0 k1 => ?_) (fun w => ?_) (by omega) <;> (show zi_run _ _ _ _ _ _ _ = _) <;> rw [zk_188_4]
  · have hs := zk_sm_ir (g := fun k => zq (I (a + 1) (496 + 3 * k) = 1)) (m := 1) k0 (fun j _ _ => by have := zq01 (P := I (a + 1) (496 + 3 * j) = 1); show 0 ≤ zq _ ∧ zq _ ≤ 1; omega)
    generalize zk_sm _ k = s at hs ⊢
    by_cases p : I (a + 1) (496 + 3 * k) = 1
    · ((try simp only [zbd_conv]); simp (disch := first | assumption | omega | trivial) only [↓reduceIte, zbd_some, eq_self, Int.reduceEq, Int.reduceLT, Int.reduceLE, and_self, or_true, true_or, or_false, false_or, if_pos, if_neg, if_true, if_false, true_and, and_true, not_true_eq_false, not_false_eq_true, false_and, and_false, Option.bind_some, zq_t, zq_f, zq0, zq1, zw_id, h1, zmo_r0 h, zmo_s1 h, zy_isShut h])
    · ((try simp only [zbd_conv]); simp (disch := first | assumption | omega | trivial) only [↓reduceIte, zbd_some, eq_self, Int.reduceEq, Int.reduceLT, Int.reduceLE, and_self, or_true, true_or, or_false, false_or, if_pos, if_neg, if_true, if_false, true_and, and_true, not_true_eq_false, not_false_eq_true, false_and, and_false, Option.bind_some, zq_t, zq_f, zq0, zq1, zw_id, h1, zmo_r0 h, zmo_s1 h, zy_isShut h])
  · generalize zk_sm _ (I (a + 1) 493) = s
    ((try simp only [zbd_conv]); simp (disch := first | assumption | omega | trivial) only [↓reduceIte, zbd_some, eq_self, Int.reduceEq, Int.reduceLT, Int.reduceLE, and_self, or_true, true_or, or_false, false_or, if_pos, if_neg, if_true, if_false, true_and, and_true, not_true_eq_false, not_false_eq_true, false_and, and_false, Option.bind_some, zq_t, zq_f, zq0, zq1, zw_id, h1, zmo_r0 h, zmo_s1 h])
/-! of a line that is laid -/
theorem zy_isStop (h : zs_mo S R a) (hl : 0 ≤ l ∧ l < 12) (hn : I (a + 1) (1 + l) = n) (hn2 : 0 ≤ n ∧ n ≤ 40) (hi : 0 ≤ i ∧ i ≤ n) : zG (d + 2) 181 [.inr (.inr a), .inl l, .inl i] (S, I, R, T) = some (zq (zl_isstop n (zt_sg (I (a + 1)) l) (I (a + 10)) i), (S, I, R, T)) := by
  have h1 := h.1.2
  have h0 := h.1.1
  have hsg : ∀ i, 0 ≤ i → i < n → zt_sg (I (a + 1)) l i = I (a + 1) (13 + 40 * l + i) := fun i i1 i2 => zt_sg_in ⟨i1, by rw [hn]; exact i2⟩
  rw [zm_181]
  by_cases g1 : i = 0
  · ((try simp only [zbd_conv]); simp (disch := first | assumption | omega | trivial) only [↓reduceIte, zbd_some, eq_self, Int.reduceEq, Int.reduceLT, Int.reduceLE, and_self, or_true, true_or, or_false, false_or, if_pos, if_neg, if_true, if_false, true_and, and_true, not_true_eq_false, not_false_eq_true, false_and, and_false, Option.bind_some, zq_t, zq_f, zq0, zq1, zw_id])
    exact zr_val (zq_t (Or.inl g1)).symm
  · by_cases g2 : i = n
    · ((try simp only [zbd_conv]); simp (disch := first | assumption | omega | trivial) only [↓reduceIte, zbd_some, eq_self, Int.reduceEq, Int.reduceLT, Int.reduceLE, and_self, or_true, true_or, or_false, false_or, if_pos, if_neg, if_true, if_false, true_and, and_true, not_true_eq_false, not_false_eq_true, false_and, and_false, Option.bind_some, zq_t, zq_f, zq0, zq1, zw_id, h1, zy_len h, hn])
      exact zr_val (zq_t (Or.inr (Or.inl g2))).symm
    · have es := hsg i (by omega) (by omega)
      by_cases g3 : I (a + 1) (13 + 40 * l + i) = 126
      · ((try simp only [zbd_conv]); simp (disch := first | assumption | omega | trivial) only [↓reduceIte, zbd_some, eq_self, Int.reduceEq, Int.reduceLT, Int.reduceLE, and_self, or_true, true_or, or_false, false_or, if_pos, if_neg, if_true, if_false, true_and, and_true, not_true_eq_false, not_false_eq_true, false_and, and_false, Option.bind_some, zq_t, zq_f, zq0, zq1, zw_id, h1, zy_len h, hn, zy_signOf h])
        exact zr_val (zq_f (fun z => z.elim g1 (fun z => z.elim g2 (fun z => z.1 (es.trans g3))))).symm
      · by_cases g4 : I (a + 10) i = 0
        · ((try simp only [zbd_conv]); simp (disch := first | assumption | omega | trivial) only [↓reduceIte, zbd_some, eq_self, Int.reduceEq, Int.reduceLT, Int.reduceLE, and_self, or_true, true_or, or_false, false_or, if_pos, if_neg, if_true, if_false, true_and, and_true, not_true_eq_false, not_false_eq_true, false_and, and_false, Option.bind_some, zq_t, zq_f, zq0, zq1, zw_id, h1, zy_len h, hn, zy_signOf h, zmo_r20 h, zmo_s10 h])
          exact zr_val (zq_t (Or.inr (Or.inr ⟨by rw [es]; exact g3, g4⟩))).symm
        · ((try simp only [zbd_conv]); simp (disch := first | assumption | omega | trivial) only [↓reduceIte, zbd_some, eq_self, Int.reduceEq, Int.reduceLT, Int.reduceLE, and_self, or_true, true_or, or_false, false_or, if_pos, if_neg, if_true, if_false, true_and, and_true, not_true_eq_false, not_false_eq_true, false_and, and_false, Option.bind_some, zq_t, zq_f, zq0, zq1, zw_id, h1, zy_len h, hn, zy_signOf h, zmo_r20 h, zmo_s10 h])
          exact zr_val (zq_f (fun z => z.elim g1 (fun z => z.elim g2 (fun z => g4 z.2)))).symm
theorem zy_counted (h : zs_mo S R a) (hl : 0 ≤ l ∧ l < 12) (hn : I (a + 1) (1 + l) = n) (hn2 : 0 ≤ n ∧ n ≤ 40) {q : Int → Prop} (hq : ∀ i, 0 ≤ i → i ≤ n → (q i ↔ if x = 4 then zl_isstop n (zt_sg (I (a + 1)) l) (I (a + 10)) i else if x = 5 then zl_brk n (zt_sg (I (a + 1)) l) i else i < n ∧ ¬ I (a + 10) i = 0)) : zG (d + 4) 192 [.inr (.inr a), .inl l, .inl x] (S, I, R, T) = some (zk_sm (fun i => zq (q i)) (n + 1), (S, I, R, T)) := by
  have h1 := h.1.2
  have h0 := h.1.1
  rw [zm_192]
  refine zl_sum (n := n + 1) (g := fun i => zq (q i)) (run := fun w k s => zi_run zt_192 (zG (d + 3)) (2 * w + 1) 5 [some (.inr (.inr a)), some (.inl l), some (.inl x), some (.inl s), some (.inl k), none] [] (S, I, R, T)) (by omega) (fun w k k0 k1 => ?_) (fun w => ?_) (w := 9999) (by omega)
  · show zi_run _ _ (2 * w + 1 + 1 + 1) _ _ _ _ = zi_run _ _ (2 * w + 1) _ _ _ _
    have hs := zk_sm_ir (g := fun i => zq (q i)) (m := 1) k0 (fun j _ _ => by have := zq01 (P := q j); show 0 ≤ zq _ ∧ zq _ ≤ 1; omega)
    generalize zk_sm _ k = s at hs ⊢
    have hqk := hq k k0 (by omega)
    have st : ∀ y, (y = 0 ∨ y = 1) → (y = 1 ↔ k < n ∧ ¬ I (a + 10) k = 0) → zi_run zt_192 (zG (d + 3)) (2 * w + 1 + 1) 40 [some (.inr (.inr a)), some (.inl l), some (.inl x), some (.inl s), some (.inl k), none] [.inl y] (S, I, R, T) = zi_run zt_192 (zG (d + 3)) (2 * w + 1) 5 [some (.inr (.inr a)), some (.inl l), some (.inl x), some (.inl (s + zq (q k))), some (.inl (k + 1)), none] [] (S, I, R, T) := by
      intro y hy hy2
      rw [zk_192_40]
      by_cases g4 : x = 4
      · rw [if_pos g4] at hqk
        rw [zq_congr hqk]
        have e1 := zy_isStop (d := d + 1) (T := T) (i := k) h hl hn hn2 (by omega)
        by_cases g : zl_isstop n (zt_sg (I (a + 1)) l) (I (a + 10)) k
        · ((try simp only [zbd_conv]); simp (disch := first | assumption | omega | trivial) only [↓reduceIte, zbd_some, eq_self, Int.reduceEq, Int.reduceLT, Int.reduceLE, and_self, or_true, true_or, or_false, false_or, if_pos, if_neg, if_true, if_false, true_and, and_true, not_true_eq_false, not_false_eq_true, false_and, and_false, Option.bind_some, zq_t, zq_f, zq0, zq1, zw_id, h1, e1])
        · ((try simp only [zbd_conv]); simp (disch := first | assumption | omega | trivial) only [↓reduceIte, zbd_some, eq_self, Int.reduceEq, Int.reduceLT, Int.reduceLE, and_self, or_true, true_or, or_false, false_or, if_pos, if_neg, if_true, if_false, true_and, and_true, not_true_eq_false, not_false_eq_true, false_and, and_false, Option.bind_some, zq_t, zq_f, zq0, zq1, zw_id, h1, e1])
      · rw [if_neg g4] at hqk
        by_cases g5 : x = 5
        · rw [if_pos g5] at hqk
          rw [zq_congr hqk]
          have e1 := zy_isBreak (d := d) (T := T) (i := k) h hl hn hn2 (by omega)
          by_cases g : zl_brk n (zt_sg (I (a + 1)) l) k
          · ((try simp only [zbd_conv]); simp (disch := first | assumption | omega | trivial) only [↓reduceIte, zbd_some, eq_self, Int.reduceEq, Int.reduceLT, Int.reduceLE, and_self, or_true, true_or, or_false, false_or, if_pos, if_neg, if_true, if_false, true_and, and_true, not_true_eq_false, not_false_eq_true, false_and, and_false, Option.bind_some, zq_t, zq_f, zq0, zq1, zw_id, h1, e1])
          · ((try simp only [zbd_conv]); simp (disch := first | assumption | omega | trivial) only [↓reduceIte, zbd_some, eq_self, Int.reduceEq, Int.reduceLT, Int.reduceLE, and_self, or_true, true_or, or_false, false_or, if_pos, if_neg, if_true, if_false, true_and, and_true, not_true_eq_false, not_false_eq_true, false_and, and_false, Option.bind_some, zq_t, zq_f, zq0, zq1, zw_id, h1, e1])
        · rw [if_neg g5] at hqk
          rw [zq_congr hqk, ← zq_congr hy2]
          rcases hy with g | g
          · subst g; ((try simp only [zbd_conv]); simp (disch := first | assumption | omega | trivial) only [↓reduceIte, zbd_some, eq_self, Int.reduceEq, Int.reduceLT, Int.reduceLE, and_self, or_true, true_or, or_false, false_or, if_pos, if_neg, if_true, if_false, true_and, and_true, not_true_eq_false, not_false_eq_true, false_and, and_false, Option.bind_some, zq_t, zq_f, zq0, zq1, zw_id])
          · subst g; ((try simp only [zbd_conv]); simp (disch := first | assumption | omega | trivial) only [↓reduceIte, zbd_some, eq_self, Int.reduceEq, Int.reduceLT, Int.reduceLE, and_self, or_true, true_or, or_false, false_or, if_pos, if_neg, if_true, if_false, true_and, and_true, not_true_eq_false, not_false_eq_true, false_and, and_false, Option.bind_some, zq_t, zq_f, zq0, zq1, zw_id])
    rw [zk_192_5]
    by_cases g1 : k < n
    · by_cases g2 : I (a + 10) k = 0
      · ((try simp only [zbd_conv]); simp (disch := first | assumption | omega | trivial) only [↓reduceIte, zbd_some, eq_self, Int.reduceEq, Int.reduceLT, Int.reduceLE, and_self, or_true, true_or, or_false, false_or, if_pos, if_neg, if_true, if_false, true_and, and_true, not_true_eq_false, not_false_eq_true, false_and, and_false, Option.bind_some, zq_t, zq_f, zq0, zq1, zw_id, h1, zy_len h, hn, zmo_r20 h, zmo_s10 h])
        exact st 0 (Or.inl rfl) ⟨fun z => absurd z (by omega), fun z => absurd g2 z.2⟩
      · ((try simp only [zbd_conv]); simp (disch := first | assumption | omega | trivial) only [↓reduceIte, zbd_some, eq_self, Int.reduceEq, Int.reduceLT, Int.reduceLE, and_self, or_true, true_or, or_false, false_or, if_pos, if_neg, if_true, if_false, true_and, and_true, not_true_eq_false, not_false_eq_true, false_and, and_false, Option.bind_some, zq_t, zq_f, zq0, zq1, zw_id, h1, zy_len h, hn, zmo_r20 h, zmo_s10 h])
        exact st 1 (Or.inr rfl) ⟨fun z => ⟨g1, g2⟩, fun _ => rfl⟩
    · ((try simp only [zbd_conv]); simp (disch := first | assumption | omega | trivial) only [↓reduceIte, zbd_some, eq_self, Int.reduceEq, Int.reduceLT, Int.reduceLE, and_self, or_true, true_or, or_false, false_or, if_pos, if_neg, if_true, if_false, true_and, and_true, not_true_eq_false, not_false_eq_true, false_and, and_false, Option.bind_some, zq_t, zq_f, zq0, zq1, zw_id, h1, zy_len h, hn])
      exact st 0 (Or.inl rfl) ⟨fun z => absurd z (by omega), fun z => absurd z.1 g1⟩
  · show zi_run _ _ (2 * w + 1 + 1 + 1) _ _ _ _ = _
    rw [zk_192_5]
    generalize zk_sm _ (n + 1) = s
    ((try simp only [zbd_conv]); simp (disch := first | assumption | omega | trivial) only [↓reduceIte, zbd_some, eq_self, Int.reduceEq, Int.reduceLT, Int.reduceLE, and_self, or_true, true_or, or_false, false_or, if_pos, if_neg, if_true, if_false, true_and, and_true, not_true_eq_false, not_false_eq_true, false_and, and_false, Option.bind_some, zq_t, zq_f, zq0, zq1, zw_id, h1, zy_len h, hn])
theorem zy_endColumn (h : zs_mo S R a) (hk : 0 ≤ k ∧ k ≤ 40) (hb : 0 ≤ I (a + 11) k ∧ I (a + 11) k ≤ I (a + 11) (k + 1) ∧ I (a + 11) (k + 1) ≤ 40) (hc : ∀ i, 0 ≤ i → i < I (a + 11) (k + 1) → (0 ≤ I (a + 8) i ∧ I (a + 8) i ≤ 1000) ∧ 0 ≤ I (a + 9) i ∧ I (a + 9) i ≤ 1000) : zG (d + 1) 195 [.inr (.inr a), .inl k] (S, I, R, T) = some (if I (a + 11) (k + 1) = 0 then 0 else if I (a + 11) k = I (a + 11) (k + 1) then I (a + 8) (I (a + 11) (k + 1)) else I (a + 8) (I (a + 11) (k + 1) - 1) + I (a + 9) (I (a + 11) (k + 1) - 1), (S, I, R, T)) := by
  have h1 := h.1.2
  have h0 := h.1.1
  rw [zm_195]
  by_cases g1 : I (a + 11) (k + 1) = 0
  · ((try simp only [zbd_conv]); simp (disch := first | assumption | omega | trivial) only [↓reduceIte, zbd_some, eq_self, Int.reduceEq, Int.reduceLT, Int.reduceLE, and_self, or_true, true_or, or_false, false_or, if_pos, if_neg, if_true, if_false, true_and, and_true, not_true_eq_false, not_false_eq_true, false_and, and_false, Option.bind_some, zq_t, zq_f, zq0, zq1, zw_id, h1, zmo_r21 h, zmo_s11 h])
  · by_cases g2 : I (a + 11) k = I (a + 11) (k + 1)
    · ((try simp only [zbd_conv]); simp (disch := first | assumption | omega | trivial) only [↓reduceIte, zbd_some, eq_self, Int.reduceEq, Int.reduceLT, Int.reduceLE, and_self, or_true, true_or, or_false, false_or, if_pos, if_neg, if_true, if_false, true_and, and_true, not_true_eq_false, not_false_eq_true, false_and, and_false, Option.bind_some, zq_t, zq_f, zq0, zq1, zw_id, h1, zmo_r21 h, zmo_s11 h, zmo_r18 h, zmo_s8 h])
    · have q := hc (I (a + 11) (k + 1) - 1) (by omega) (by omega)
      ((try simp only [zbd_conv]); simp (disch := first | assumption | omega | trivial) only [↓reduceIte, zbd_some, eq_self, Int.reduceEq, Int.reduceLT, Int.reduceLE, and_self, or_true, true_or, or_false, false_or, if_pos, if_neg, if_true, if_false, true_and, and_true, not_true_eq_false, not_false_eq_true, false_and, and_false, Option.bind_some, zq_t, zq_f, zq0, zq1, zw_id, h1, zmo_r21 h, zmo_s11 h, zmo_r18 h, zmo_s8 h, zmo_r19 h, zmo_s9 h])
theorem zy_placeOf (h : zs_mo S R a) (hl : 0 ≤ l ∧ l < 12) (hn : I (a + 1) (1 + l) = n) (hn2 : 0 ≤ n ∧ n ≤ 40) (hk : 0 ≤ k ∧ k ≤ 40) (hb : 0 ≤ I (a + 11) k ∧ I (a + 11) k ≤ n) (hf : I (a + 7) (I (a + 11) k) = k ∧ zl_isstop n (zt_sg (I (a + 1)) l) (I (a + 10)) (I (a + 11) k)) : ∃ v, zG (d + 3) 199 [.inr (.inr a), .inl l, .inl k, .inl c] (S, I, R, T) = some (v, (S, I, R, T)) ∧ zl_lst (I (a + 11) k) (n + 1) (fun i => I (a + 7) i = k ∧ zl_isstop n (zt_sg (I (a + 1)) l) (I (a + 10)) i ∧ I (a + 8) i ≤ c) v := by
  have h1 := h.1.2
  have h0 := h.1.1
  rw [zm_199]
  obtain ⟨b, hbb⟩ : ∃ b, b = I (a + 11) k := ⟨_, rfl⟩
  rw [← hbb] at hb hf ⊢
  have key : ∀ (u : Nat) (i pl : Int) (w : Nat), (u : Int) + i = n + 1 → b ≤ i → ((i = b ∧ pl = -4) ∨ (b < i ∧ zl_lst b i (fun i => I (a + 7) i = k ∧ zl_isstop n (zt_sg (I (a + 1)) l) (I (a + 10)) i ∧ I (a + 8) i ≤ c) pl)) → 2 * u + 1 ≤ w → ∃ v, zi_run zt_199 (zG (d + 2)) w 12 [some (.inr (.inr a)), some (.inl l), some (.inl k), some (.inl c), some (.inl pl), some (.inl i), none] [] (S, I, R, T) = some (v, (S, I, R, T)) ∧ zl_lst b (n + 1) (fun i => I (a + 7) i = k ∧ zl_isstop n (zt_sg (I (a + 1)) l) (I (a + 10)) i ∧ I (a + 8) i ≤ c) v := by
    intro u
    induction u with
    | zero =>
      intro i pl w k1 k2 hp k3
      obtain ⟨w, rfl⟩ : ∃ w', w = w' + 1 := ⟨w - 1, by omega⟩
      obtain rfl : i = n + 1 := by omega
      rw [zk_199_12]
      rcases hp with hp | hp
      · omega
      · ((try simp only [zbd_conv]); simp (disch := first | assumption | omega | trivial) only [↓reduceIte, zbd_some, eq_self, Int.reduceEq, Int.reduceLT, Int.reduceLE, and_self, or_true, true_or, or_false, false_or, if_pos, if_neg, if_true, if_false, true_and, and_true, not_true_eq_false, not_false_eq_true, false_and, and_false, Option.bind_some, zq_t, zq_f, zq0, zq1, zw_id, h1, zy_len h, hn])
        exact ⟨_, rfl, hp.2⟩
    | succ u ih =>
      intro i pl w k1 k2 hp k3
      obtain ⟨w, rfl⟩ : ∃ w', w = w' + 1 + 1 := ⟨w - 2, by omega⟩
      have hst := zy_isStop (d := d) (T := T) (i := i) h hl hn hn2 (by omega)
      have plb : pl ≠ -4 ∨ i = b := by
        rcases hp with hp | ⟨p0, ⟨p1, _⟩ | ⟨p1, _⟩⟩
        · exact Or.inr hp.1
        · exact Or.inl (by omega)
        · exact Or.inl (by omega)
      have no : b < i → ¬ (I (a + 7) i = k ∧ zl_isstop n (zt_sg (I (a + 1)) l) (I (a + 10)) i ∧ I (a + 8) i ≤ c) → ∃ v, zi_run zt_199 (zG (d + 2)) w 12 [some (.inr (.inr a)), some (.inl l), some (.inl k), some (.inl c), some (.inl pl), some (.inl (i + 1)), none] [] (S, I, R, T) = some (v, (S, I, R, T)) ∧ zl_lst b (n + 1) (fun i => I (a + 7) i = k ∧ zl_isstop n (zt_sg (I (a + 1)) l) (I (a + 10)) i ∧ I (a + 8) i ≤ c) v := by
        intro hbi hn'
        refine ih (i + 1) pl w (by omega) (by omega) (Or.inr ⟨by omega, ?_⟩) (by omega)
        rcases hp with hp | ⟨p0, ⟨p1, p2, p3, p4⟩ | ⟨p1, p2⟩⟩
        · omega
        · refine Or.inl ⟨p1, by omega, p3, fun j j1 j2 => ?_⟩
          by_cases hj : j = i
          · rw [hj]; exact hn'
          · exact p4 j j1 (by omega)
        · refine Or.inr ⟨p1, fun j j1 j2 => ?_⟩
          by_cases hj : j = i
          · rw [hj]; exact hn'
          · exact p2 j j1 (by omega)
      have yes : (i = b ∨ (b < i ∧ I (a + 7) i = k ∧ zl_isstop n (zt_sg (I (a + 1)) l) (I (a + 10)) i ∧ I (a + 8) i ≤ c)) → ∃ v, zi_run zt_199 (zG (d + 2)) w 12 [some (.inr (.inr a)), some (.inl l), some (.inl k), some (.inl c), some (.inl i), some (.inl (i + 1)), none] [] (S, I, R, T) = some (v, (S, I, R, T)) ∧ zl_lst b (n + 1) (fun i => I (a + 7) i = k ∧ zl_isstop n (zt_sg (I (a + 1)) l) (I (a + 10)) i ∧ I (a + 8) i ≤ c) v := by
        intro hy
        refine ih (i + 1) i w (by omega) (by omega) (Or.inr ⟨by omega, ?_⟩) (by omega)
        rcases hy with hy | ⟨hy1, hy2⟩
        · exact Or.inr ⟨hy, fun j j1 j2 => absurd j1 (by omega)⟩
        · exact Or.inl ⟨hy1, by omega, hy2, fun j j1 j2 => absurd j1 (by omega)⟩
      rw [zk_199_12]
      by_cases g1 : I (a + 7) i = k
      · by_cases g2 : zl_isstop n (zt_sg (I (a + 1)) l) (I (a + 10)) i
        · ((try simp only [zbd_conv]); simp (disch := first | assumption | omega | trivial) only [↓reduceIte, zbd_some, eq_self, Int.reduceEq, Int.reduceLT, Int.reduceLE, and_self, or_true, true_or, or_false, false_or, if_pos, if_neg, if_true, if_false, true_and, and_true, not_true_eq_false, not_false_eq_true, false_and, and_false, Option.bind_some, zq_t, zq_f, zq0, zq1, zw_id, h1, zy_len h, hn, zmo_r17 h, zmo_s7 h, hst])
          rw [zk_199_48]
          by_cases g3 : i = b
          · have hp4 : pl = -4 := by rcases hp with hp | hp <;> omega
            ((try simp only [zbd_conv]); simp (disch := first | assumption | omega | trivial) only [↓reduceIte, zbd_some, eq_self, Int.reduceEq, Int.reduceLT, Int.reduceLE, and_self, or_true, true_or, or_false, false_or, if_pos, if_neg, if_true, if_false, true_and, and_true, not_true_eq_false, not_false_eq_true, false_and, and_false, Option.bind_some, zq_t, zq_f, zq0, zq1, zw_id])
            exact yes (Or.inl g3)
          · have hp4 : ¬ pl = -4 := by rcases plb with q | q <;> omega
            by_cases g5 : c < I (a + 8) i
            · ((try simp only [zbd_conv]); simp (disch := first | assumption | omega | trivial) only [↓reduceIte, zbd_some, eq_self, Int.reduceEq, Int.reduceLT, Int.reduceLE, and_self, or_true, true_or, or_false, false_or, if_pos, if_neg, if_true, if_false, true_and, and_true, not_true_eq_false, not_false_eq_true, false_and, and_false, Option.bind_some, zq_t, zq_f, zq0, zq1, zw_id, h1, zmo_r18 h, zmo_s8 h])
              exact no (by omega) (fun z => by have := z.2.2; omega)
            · ((try simp only [zbd_conv]); simp (disch := first | assumption | omega | trivial) only [↓reduceIte, zbd_some, eq_self, Int.reduceEq, Int.reduceLT, Int.reduceLE, and_self, or_true, true_or, or_false, false_or, if_pos, if_neg, if_true, if_false, true_and, and_true, not_true_eq_false, not_false_eq_true, false_and, and_false, Option.bind_some, zq_t, zq_f, zq0, zq1, zw_id, h1, zmo_r18 h, zmo_s8 h])
              exact yes (Or.inr ⟨by omega, g1, g2, by omega⟩)
        · ((try simp only [zbd_conv]); simp (disch := first | assumption | omega | trivial) only [↓reduceIte, zbd_some, eq_self, Int.reduceEq, Int.reduceLT, Int.reduceLE, and_self, or_true, true_or, or_false, false_or, if_pos, if_neg, if_true, if_false, true_and, and_true, not_true_eq_false, not_false_eq_true, false_and, and_false, Option.bind_some, zq_t, zq_f, zq0, zq1, zw_id, h1, zy_len h, hn, zmo_r17 h, zmo_s7 h, hst])
          rw [zk_199_48]
          ((try simp only [zbd_conv]); simp (disch := first | assumption | omega | trivial) only [↓reduceIte, zbd_some, eq_self, Int.reduceEq, Int.reduceLT, Int.reduceLE, and_self, or_true, true_or, or_false, false_or, if_pos, if_neg, if_true, if_false, true_and, and_true, not_true_eq_false, not_false_eq_true, false_and, and_false, Option.bind_some, zq_t, zq_f, zq0, zq1, zw_id])
          by_cases g3 : i = b
          · exfalso; rw [g3] at g2; exact g2 hf.2
          · exact no (by omega) (fun z => g2 z.2.1)
      · ((try simp only [zbd_conv]); simp (disch := first | assumption | omega | trivial) only [↓reduceIte, zbd_some, eq_self, Int.reduceEq, Int.reduceLT, Int.reduceLE, and_self, or_true, true_or, or_false, false_or, if_pos, if_neg, if_true, if_false, true_and, and_true, not_true_eq_false, not_false_eq_true, false_and, and_false, Option.bind_some, zq_t, zq_f, zq0, zq1, zw_id, h1, zy_len h, hn, zmo_r17 h, zmo_s7 h])
        rw [zk_199_48]
        ((try simp only [zbd_conv]); simp (disch := first | assumption | omega | trivial) only [↓reduceIte, zbd_some, eq_self, Int.reduceEq, Int.reduceLT, Int.reduceLE, and_self, or_true, true_or, or_false, false_or, if_pos, if_neg, if_true, if_false, true_and, and_true, not_true_eq_false, not_false_eq_true, false_and, and_false, Option.bind_some, zq_t, zq_f, zq0, zq1, zw_id])
        by_cases g3 : i = b
        · exfalso; rw [g3] at g1; exact g1 hf.1
        · exact no (by omega) (fun z => g1 z.1)
  ((try simp only [zbd_conv]); simp (disch := first | assumption | omega | trivial) only [↓reduceIte, zbd_some, eq_self, Int.reduceEq, Int.reduceLT, Int.reduceLE, and_self, or_true, true_or, or_false, false_or, if_pos, if_neg, if_true, if_false, true_and, and_true, not_true_eq_false, not_false_eq_true, false_and, and_false, Option.bind_some, zq_t, zq_f, zq0, zq1, zw_id, h1, zmo_r21 h, zmo_s11 h])
  rw [← hbb]
  exact key (n + 1 - b).toNat b (-4) 19999 (by omega) (Int.le_refl _) (Or.inl ⟨rfl, rfl⟩) (by omega)
theorem zy_stopAhead (h : zs_mo S R a) (hl : 0 ≤ l ∧ l < 12) (hn : I (a + 1) (1 + l) = n) (hn2 : 0 ≤ n ∧ n ≤ 40) (hi : 0 ≤ i ∧ i ≤ n) : ∃ v, zG (d + 3) 207 [.inr (.inr a), .inl l, .inl i] (S, I, R, T) = some (if v < 0 then -4 else v, (S, I, R, T)) ∧ zl_pv i (zl_isstop n (zt_sg (I (a + 1)) l) (I (a + 10))) v := by
  have h1 := h.1.2
  rw [zm_207]
  have key : ∀ (w : Nat) (k : Int), -1 ≤ k → k < i → (∀ j, k < j → j < i → ¬ zl_isstop n (zt_sg (I (a + 1)) l) (I (a + 10)) j) → (k + 1).toNat < w → ∃ v, zi_run zt_207 (zG (d + 2)) w 4 [some (.inr (.inr a)), some (.inl l), none, some (.inl k)] [] (S, I, R, T) = some (if v < 0 then -4 else v, (S, I, R, T)) ∧ zl_pv i (zl_isstop n (zt_sg (I (a + 1)) l) (I (a + 10))) v := by
    intro w
    induction w with
    | zero => intro k _ _ _ q; omega
    | succ w ih =>
      intro k k1 k2 hp k3
      rw [zk_207_4]
      by_cases hk : k < 0
      · obtain rfl : k = -1 := by omega
        refine ⟨-1, ?_, Or.inr rfl, hp⟩
        ((try simp only [zbd_conv]); simp (disch := first | assumption | omega | trivial) only [↓reduceIte, zbd_some, eq_self, Int.reduceEq, Int.reduceLT, Int.reduceLE, and_self, or_true, true_or, or_false, false_or, if_pos, if_neg, if_true, if_false, true_and, and_true, not_true_eq_false, not_false_eq_true, false_and, and_false, Option.bind_some, zq_t, zq_f, zq0, zq1, zw_id])
      · have hst := zy_isStop (d := d) (T := T) (i := k) h hl hn hn2 (by omega)
        by_cases g2 : zl_isstop n (zt_sg (I (a + 1)) l) (I (a + 10)) k
        · refine ⟨k, ?_, Or.inl ⟨by omega, k2, g2⟩, hp⟩
          ((try simp only [zbd_conv]); simp (disch := first | assumption | omega | trivial) only [↓reduceIte, zbd_some, eq_self, Int.reduceEq, Int.reduceLT, Int.reduceLE, and_self, or_true, true_or, or_false, false_or, if_pos, if_neg, if_true, if_false, true_and, and_true, not_true_eq_false, not_false_eq_true, false_and, and_false, Option.bind_some, zq_t, zq_f, zq0, zq1, zw_id, h1, hst])
        · ((try simp only [zbd_conv]); simp (disch := first | assumption | omega | trivial) only [↓reduceIte, zbd_some, eq_self, Int.reduceEq, Int.reduceLT, Int.reduceLE, and_self, or_true, true_or, or_false, false_or, if_pos, if_neg, if_true, if_false, true_and, and_true, not_true_eq_false, not_false_eq_true, false_and, and_false, Option.bind_some, zq_t, zq_f, zq0, zq1, zw_id, h1, hst])
          exact ih (k + -1) (by omega) (by omega) (fun j j1 j2 => by
            by_cases hj : j = k
            · rw [hj]; exact g2
            · exact hp j (by omega) j2) (by omega)
  ((try simp only [zbd_conv]); simp (disch := first | assumption | omega | trivial) only [↓reduceIte, zbd_some, eq_self, Int.reduceEq, Int.reduceLT, Int.reduceLE, and_self, or_true, true_or, or_false, false_or, if_pos, if_neg, if_true, if_false, true_and, and_true, not_true_eq_false, not_false_eq_true, false_and, and_false, Option.bind_some, zq_t, zq_f, zq0, zq1, zw_id])
  exact key 19999 (i - 1) (by omega) (by omega) (fun j j1 j2 => absurd j1 (by omega)) (by omega)
theorem zy_stopBehind (h : zs_mo S R a) (hl : 0 ≤ l ∧ l < 12) (hn : I (a + 1) (1 + l) = n) (hn2 : 0 ≤ n ∧ n ≤ 40) (hi : 0 ≤ i ∧ i ≤ n) : ∃ v, zG (d + 3) 208 [.inr (.inr a), .inl l, .inl i] (S, I, R, T) = some (v, (S, I, R, T)) ∧ ((i < n ∧ zl_nx (i + 1) n (zl_isstop n (zt_sg (I (a + 1)) l) (I (a + 10))) v) ∨ (i = n ∧ v = -4)) := by
  have h1 := h.1.2
  rw [zm_208]
  by_cases hin : i = n
  · ((try simp only [zbd_conv]); simp (disch := first | assumption | omega | trivial) only [↓reduceIte, zbd_some, eq_self, Int.reduceEq, Int.reduceLT, Int.reduceLE, and_self, or_true, true_or, or_false, false_or, if_pos, if_neg, if_true, if_false, true_and, and_true, not_true_eq_false, not_false_eq_true, false_and, and_false, Option.bind_some, zq_t, zq_f, zq0, zq1, zw_id])
    refine ⟨-4, ?_, Or.inr ⟨hin, rfl⟩⟩
    rw [zk_208_4]
    ((try simp only [zbd_conv]); simp (disch := first | assumption | omega | trivial) only [↓reduceIte, zbd_some, eq_self, Int.reduceEq, Int.reduceLT, Int.reduceLE, and_self, or_true, true_or, or_false, false_or, if_pos, if_neg, if_true, if_false, true_and, and_true, not_true_eq_false, not_false_eq_true, false_and, and_false, Option.bind_some, zq_t, zq_f, zq0, zq1, zw_id, h1, zy_len h, hn])
  · have key : ∀ (w : Nat) (k : Int), i + 1 ≤ k → k ≤ n → (∀ j, i + 1 ≤ j → j < k → ¬ zl_isstop n (zt_sg (I (a + 1)) l) (I (a + 10)) j) → (n - k).toNat < w → ∃ v, zi_run zt_208 (zG (d + 2)) w 4 [some (.inr (.inr a)), some (.inl l), none, some (.inl k)] [] (S, I, R, T) = some (v, (S, I, R, T)) ∧ ((i < n ∧ zl_nx (i + 1) n (zl_isstop n (zt_sg (I (a + 1)) l) (I (a + 10))) v) ∨ (i = n ∧ v = -4)) := by
      intro w
      induction w with
      | zero => intro k _ _ _ q; omega
      | succ w ih =>
        intro k k1 k2 hp k3
        have hst := zy_isStop (d := d) (T := T) (i := k) h hl hn hn2 (by omega)
        rw [zk_208_4]
        by_cases g2 : zl_isstop n (zt_sg (I (a + 1)) l) (I (a + 10)) k
        · ((try simp only [zbd_conv]); simp (disch := first | assumption | omega | trivial) only [↓reduceIte, zbd_some, eq_self, Int.reduceEq, Int.reduceLT, Int.reduceLE, and_self, or_true, true_or, or_false, false_or, if_pos, if_neg, if_true, if_false, true_and, and_true, not_true_eq_false, not_false_eq_true, false_and, and_false, Option.bind_some, zq_t, zq_f, zq0, zq1, zw_id, h1, zy_len h, hn, hst])
          exact ⟨_, rfl, Or.inl ⟨by omega, k1, k2, Or.inr g2, hp⟩⟩
        · have kn : k ≠ n := fun q => g2 (Or.inr (Or.inl q))
          ((try simp only [zbd_conv]); simp (disch := first | assumption | omega | trivial) only [↓reduceIte, zbd_some, eq_self, Int.reduceEq, Int.reduceLT, Int.reduceLE, and_self, or_true, true_or, or_false, false_or, if_pos, if_neg, if_true, if_false, true_and, and_true, not_true_eq_false, not_false_eq_true, false_and, and_false, Option.bind_some, zq_t, zq_f, zq0, zq1, zw_id, h1, zy_len h, hn, hst])
          exact ih (k + 1) (by omega) (by omega) (fun j j1 j2 => by
            by_cases hj : j = k
            · rw [hj]; exact g2
            · exact hp j j1 (by omega)) (by omega)
    ((try simp only [zbd_conv]); simp (disch := first | assumption | omega | trivial) only [↓reduceIte, zbd_some, eq_self, Int.reduceEq, Int.reduceLT, Int.reduceLE, and_self, or_true, true_or, or_false, false_or, if_pos, if_neg, if_true, if_false, true_and, and_true, not_true_eq_false, not_false_eq_true, false_and, and_false, Option.bind_some, zq_t, zq_f, zq0, zq1, zw_id])
    exact key 19999 (i + 1) (by omega) (by omega) (fun j j1 j2 => absurd j1 (by omega)) (by omega)
/-- the caret settles -/
theorem zy_settles (h : zs_mo S R a) (hr : zr_mo I a) (hw : zw_page (I (a + 1))) : ∃ J v, zG (d + 6) 205 [.inr (.inr a)] (S, I, R, T) = some (0, (S, J, R, T)) ∧ ((∀ x, x ≠ a → x ≠ a + 1 → (x < a + 7 ∨ a + 11 < x) → J x = I x) ∧ ∀ j, j ≠ 22 → j ≠ 23 → j ≠ 10 → J a j = I a j) ∧ J (a + 1) = zt_up (I (a + 1)) 519 v ∧ zl_mok (I (a + 1) (1 + I (a + 1) 518)) (I a 6) (I a 7) (I a 8) (zl_ind (I (a + 1) (1 + I (a + 1) 518)) (I a 6) (I a 7) (I a 8) (I a 9) (zt_sg (I (a + 1)) (I (a + 1) 518))) (zt_sg (I (a + 1)) (I (a + 1) 518)) J a ∧ zl_nx (I (a + 1) 519) (I (a + 1) (1 + I (a + 1) 518)) (zl_isstop (I (a + 1) (1 + I (a + 1) 518)) (zt_sg (I (a + 1)) (I (a + 1) 518)) (J (a + 10))) v ∧ J a 10 = J (a + 8) v := by
  have h1 := h.1.2
  have h0 := h.1.1
  obtain ⟨w1, w2, w3, w4, w5, w6, w7, w8⟩ := hw
  obtain ⟨P, hP⟩ : ∃ P, P = I (a + 1) := ⟨_, rfl⟩
  rw [← hP] at w1 w2 w3 w4 w5 w6 w7 w8 ⊢
  obtain ⟨l, hl⟩ : ∃ l, l = P 518 := ⟨_, rfl⟩
  rw [← hl] at w6 w8 ⊢
  obtain ⟨n, hn⟩ : ∃ n, n = P (1 + l) := ⟨_, rfl⟩
  rw [← hn] at w8 ⊢
  have hn2 : 0 ≤ n ∧ n ≤ 40 := by rw [hn]; exact w2 l w6.1 w6.2
  obtain ⟨J, e1, e2, e3⟩ := zy_lays (d := d) (I := I) (T := T) (l := l) (n := n) h hr (by omega) (by rw [← hP, hn]) hn2
  rw [← hP] at e3
  have jp : J (a + 1) = P := (e2.1 (a + 1) (by omega) (by omega)).trans hP.symm
  rw [zm_205]
  have key : ∀ (u : Nat) (k : Int) (w : Nat), (u : Int) + k = n → P 519 ≤ k → (∀ j, P 519 ≤ j → j < k → ¬ zl_isstop n (zt_sg P l) (J (a + 10)) j) → u < w → ∃ v K, zi_run zt_205 (zG (d + 5)) w 12 [some (.inr (.inr a))] [] (S, zt_row J (a + 1) (zt_up P 519 k), R, T) = some (0, (S, K, R, T)) ∧ zl_nx (P 519) n (zl_isstop n (zt_sg P l) (J (a + 10))) v ∧ K = zi_up (zt_row J (a + 1) (zt_up P 519 v)) a 10 (J (a + 8) v) := by
    intro u
    induction u with
    | zero =>
      intro k w k1 k2 hp k3
      obtain ⟨w, rfl⟩ : ∃ w', w = w' + 1 := ⟨w - 1, by omega⟩
      obtain rfl : k = n := by omega
      have q1 : zt_row J (a + 1) (zt_up P 519 k) (a + 1) = zt_up P 519 k := zt_row_eq
      have q2 : zt_up P 519 k 518 = l := by rw [zt_up_ne (by omega), hl]
      have q3 : zt_up P 519 k 519 = k := zt_up_eq rfl
      have q4 : zt_up P 519 k (1 + l) = k := by rw [zt_up_ne (by omega), hn]
      have hst := zy_isStop (d := d + 3) (I := zt_row J (a + 1) (zt_up P 519 k)) (T := T) (i := k) h (show 0 ≤ l ∧ l < 12 by omega) (by rw [q1, q4]) hn2 (by omega)
      have yes : zl_isstop k (zt_sg (zt_row J (a + 1) (zt_up P 519 k) (a + 1)) l) (zt_row J (a + 1) (zt_up P 519 k) (a + 10)) k := Or.inr (Or.inl rfl)
      have q8 : zt_row J (a + 1) (zt_up P 519 k) (a + 8) = J (a + 8) := zt_row_off (by omega)
      rw [zq_t yes] at hst
      rw [zk_205_12]
      ((try simp only [zbd_conv]); simp (disch := first | assumption | omega | trivial) only [↓reduceIte, zbd_some, eq_self, Int.reduceEq, Int.reduceLT, Int.reduceLE, and_self, or_true, true_or, or_false, false_or, if_pos, if_neg, if_true, if_false, true_and, and_true, not_true_eq_false, not_false_eq_true, false_and, and_false, Option.bind_some, zq_t, zq_f, zq0, zq1, zw_id, h1, zmo_r0 h, zmo_s1 h, q1, q2, q3, hst, zmo_r18 h, zmo_s8 h, q8, zwr])
      exact ⟨k, _, rfl, ⟨by omega, Int.le_refl _, Or.inl rfl, hp⟩, rfl⟩
    | succ u ih =>
      intro k w k1 k2 hp k3
      obtain ⟨w, rfl⟩ : ∃ w', w = w' + 1 := ⟨w - 1, by omega⟩
      have q1 : zt_row J (a + 1) (zt_up P 519 k) (a + 1) = zt_up P 519 k := zt_row_eq
      have q2 : zt_up P 519 k 518 = l := by rw [zt_up_ne (by omega), hl]
      have q3 : zt_up P 519 k 519 = k := zt_up_eq rfl
      have q4 : zt_up P 519 k (1 + l) = n := by rw [zt_up_ne (by omega), hn]
      have hst := zy_isStop (d := d + 3) (I := zt_row J (a + 1) (zt_up P 519 k)) (T := T) (i := k) h (show 0 ≤ l ∧ l < 12 by omega) (by rw [q1, q4]) hn2 (by omega)
      have q8 : zt_row J (a + 1) (zt_up P 519 k) (a + 8) = J (a + 8) := zt_row_off (by omega)
      have q10 : zt_row J (a + 1) (zt_up P 519 k) (a + 10) = J (a + 10) := zt_row_off (by omega)
      have qs : zt_sg (zt_up P 519 k) l = zt_sg P l := by
        funext j
        unfold zt_sg
        rw [zt_up_ne (show ¬ 1 + l = 519 by omega)]
        by_cases g : 0 ≤ j ∧ j < P (1 + l)
        · rw [if_pos g, if_pos g, zt_up_ne (by omega)]
        · rw [if_neg g, if_neg g]
      rw [q1, q10, qs] at hst
      rw [zk_205_12]
      by_cases g : zl_isstop n (zt_sg P l) (J (a + 10)) k
      · ((try simp only [zbd_conv]); simp (disch := first | assumption | omega | trivial) only [↓reduceIte, zbd_some, eq_self, Int.reduceEq, Int.reduceLT, Int.reduceLE, and_self, or_true, true_or, or_false, false_or, if_pos, if_neg, if_true, if_false, true_and, and_true, not_true_eq_false, not_false_eq_true, false_and, and_false, Option.bind_some, zq_t, zq_f, zq0, zq1, zw_id, h1, zmo_r0 h, zmo_s1 h, q1, q2, q3, hst, zmo_r18 h, zmo_s8 h, q8, zwr])
        exact ⟨k, _, rfl, ⟨by omega, by omega, Or.inr g, hp⟩, rfl⟩
      · have nx := ih (k + 1) w (by omega) (by omega) (fun j j1 j2 => by
          by_cases hj : j = k
          · rw [hj]; exact g
          · exact hp j j1 (by omega)) (by omega)
        have eu : zt_up (zt_up P 519 k) 519 (k + 1) = zt_up P 519 (k + 1) := by
          funext j
          by_cases gj : j = 519
          · rw [zt_up_eq gj, zt_up_eq gj]
          · rw [zt_up_ne gj, zt_up_ne gj, zt_up_ne gj]
        ((try simp only [zbd_conv]); simp (disch := first | assumption | omega | trivial) only [↓reduceIte, zbd_some, eq_self, Int.reduceEq, Int.reduceLT, Int.reduceLE, and_self, or_true, true_or, or_false, false_or, if_pos, if_neg, if_true, if_false, true_and, and_true, not_true_eq_false, not_false_eq_true, false_and, and_false, Option.bind_some, zq_t, zq_f, zq0, zq1, zw_id, h1, zmo_r0 h, zmo_s1 h, q1, q2, q3, hst, zwr, zt_row_up, eu])
        exact nx
  obtain ⟨v, K, f1, f2, f3⟩ := key (n - P 519).toNat (P 519) 19999 (by omega) (Int.le_refl _) (fun j j1 j2 => absurd j1 (by omega)) (by omega)
  have es : zt_row J (a + 1) (zt_up P 519 (P 519)) = J := by
    rw [show zt_up P 519 (P 519) = J (a + 1) from ?_, zt_row_self]
    rw [jp]
    funext j
    by_cases gj : j = 519
    · rw [zt_up_eq gj, gj]
    · rw [zt_up_ne gj]
  rw [es] at f1
  have kx : ∀ x, x ≠ a → x ≠ a + 1 → K x = J x := fun x x1 x2 => by rw [f3, zu_off x1, zt_row_off x2]
  have ka : ∀ j, j ≠ 10 → K a j = J a j := fun j hj => by rw [f3, zu_ne (by omega), zt_row_off (by omega)]
  ((try simp only [zbd_conv]); simp (disch := first | assumption | omega | trivial) only [↓reduceIte, zbd_some, eq_self, Int.reduceEq, Int.reduceLT, Int.reduceLE, and_self, or_true, true_or, or_false, false_or, if_pos, if_neg, if_true, if_false, true_and, and_true, not_true_eq_false, not_false_eq_true, false_and, and_false, Option.bind_some, zq_t, zq_f, zq0, zq1, zw_id, h1, zmo_r0 h, zmo_s1 h, hP.symm, hl.symm, e1])
  refine ⟨K, v, f1, ⟨fun x x1 x2 x3 => by rw [kx x x1 x2]; exact e2.1 x x1 x3, fun j j1 j2 j3 => by rw [ka j j3]; exact e2.2 j j1 j2⟩, ?_, ?_, ?_, ?_⟩
  · rw [f3, zu_off (by omega), zt_row_eq]
  · obtain ⟨g1, g2, g3, g4⟩ := e3
    refine ⟨?_, by rw [ka 23 (by omega)]; exact g2, by rw [kx _ (by omega) (by omega)]; exact g3, by rw [kx _ (by omega) (by omega)]; exact g4⟩
    rw [ka 22 (by omega), kx (a + 7) (by omega) (by omega), kx (a + 8) (by omega) (by omega), kx (a + 9) (by omega) (by omega), kx (a + 10) (by omega) (by omega), kx (a + 11) (by omega) (by omega)]
    exact g1
  · rw [kx (a + 10) (by omega) (by omega)]; exact f2
  · rw [kx (a + 8) (by omega) (by omega), f3, zu_eq ⟨rfl, rfl⟩]
end ZMr
