/-! the caret goes: step -/
section ZMy
variable {d : Nat} {S : zS} {I J K R : zI} {T : Int × Nat} {X M n v l f c k x y z r i p w t m e : Int} {P Q rz : Int → Int}
/-- the caret goes from line l to a stop: what the reference does -/
theorem zz_mvmain (h : zR4 S I R X M) (hf : R X 6 = f) (hl : 0 ≤ l ∧ l < I (M + 1) 0) (hv : 0 ≤ v ∧ v < I (M + 1) 0) (hp : 0 ≤ p ∧ p ≤ I (M + 1) (1 + v)) (hst : I (X + 135 + 11 + 9 * v + 5) p = 1) : ∃ K0 K2, zo_ly (zp_mv I X f v p (I (X + 135 + 11 + 9 * v + 2) p)) K0 M ∧ zG (d + 10) 180 [.inr (.inr M), .inl l] (S, zp_mv I X f v p (I (X + 135 + 11 + 9 * v + 2) p), R, T) = some (0, (S, K0, R, T)) ∧ zr_mok I K0 M l ∧ K0 (M + 1) = I (M + 1) ∧ zG (d + 10) 205 [.inr (.inr M)] (S, zi_up (zi_up K0 (M + 1) 518 v) (M + 1) 519 p, R, T) = some (0, (S, K2, R, T)) ∧ zR4 S K2 R X M := by
  obtain ⟨hc, hm, hap, hall⟩ := id h
  obtain ⟨⟨hrep, hwf⟩, -, hmo, -, hlay, hrz, -, -⟩ := zR4_facts h
  have lof := zs_fa_lo (zcl_fa6 hc hf)
  have jM : ∀ z, M ≤ z → zp_mv I X f v p (I (X + 135 + 11 + 9 * v + 2) p) z = I z := fun z z1 => zp_mv_off (by omega) (by omega)
  obtain ⟨K0, d1, d2, d3⟩ := zzm_laysJ (d := d + 5) (T := T) hm hmo hwf jM hl
  have k0P : K0 (M + 1) = I (M + 1) := (d2.1 (M + 1) (by omega) (by omega)).trans (jM _ (by omega))
  obtain ⟨K2, f1, f2, f3⟩ := zz_mvfin (d := d + 4) (T := T) h hf hv hp hst d2 (K1 := zi_up (zi_up K0 (M + 1) 518 v) (M + 1) 519 p) (by rw [zu_row, zu_row, k0P]) (fun z hz => by rw [zu_off hz, zu_off hz])
  exact ⟨K0, K2, d2, d1, d3, k0P, f1, f3⟩
theorem zzm_put131 (hm : zs_mo S R M) {K0 K2 : zI} {w' : Nat} (hs : zG (d + 10) 205 [.inr (.inr M)] (S, zi_up (zi_up K0 (M + 1) 518 v) (M + 1) 519 p, R, T) = some (0, (S, K2, R, T))) : zi_run zt_209 (zG (d + 10)) (w' + 1) 131 [some (.inr (.inr M)), none, some (.inl v), some (.inl p), none] [] (S, K0, R, T) = some (p, (S, K2, R, T)) := by
  rw [zk_209_131]
  ((try simp only [zbd_conv]); simp (disch := first | assumption | omega | trivial) only [↓reduceIte, zbd_some, eq_self, Int.reduceEq, Int.reduceLT, Int.reduceLE, and_self, or_true, true_or, or_false, false_or, if_pos, if_neg, if_true, if_false, true_and, and_true, not_true_eq_false, not_false_eq_true, false_and, and_false, Option.bind_some, zq_t, zq_f, zq0, zq1, zw_id, zmo_1 hm, zmo_r0 hm, zmo_s1 hm, zwr, hs])
theorem zzm_ahead (hm : zs_mo S R M) (hwf : zw_page (I (M + 1))) {K0 : zI} {res : zR} (k0P : K0 (M + 1) = I (M + 1)) (hl : 0 ≤ l ∧ l < I (M + 1) 0) (h1 : ∀ j, v < j → j < l → zt_hid (I (M + 1)) j) (h2 : (0 ≤ v ∧ v < l ∧ ¬ zt_hid (I (M + 1)) v) ∨ v = -1) (hno : v = -1 → res = some (-4, (S, K0, R, T))) (hyes : 0 ≤ v → ∀ w', zi_run zt_209 (zG (d + 10)) (w' + 1) 131 [some (.inr (.inr M)), none, some (.inl v), some (.inl (I (M + 1) (1 + v))), none] [] (S, K0, R, T) = res) : ∀ (u : Nat) (k : Int) (w' : Nat), (u : Int) = k + 1 → v ≤ k → k < l → u + 2 ≤ w' → zi_run zt_209 (zG (d + 10)) w' 82 [some (.inr (.inr M)), some (.inl 0), some (.inl k), none, some (.inl (-1))] [] (S, K0, R, T) = res := by
  have h0 := hwf.1
  have isl : ∀ k, zG (d + 10) 190 [.inr (.inr M), .inl k] (S, K0, R, T) = some (zq (0 ≤ k ∧ k < I (M + 1) 0), (S, K0, R, T)) := fun k => by
    have := zzm_isLine (d := d + 8) (I := K0) (K := K0) (T := T) (l := k) hm (by rw [k0P]; exact hwf) zo_ly_refl
    rw [k0P] at this
    exact this
  have hid : ∀ k, zG (d + 10) 162 [.inr (.inr M), .inl k] (S, K0, R, T) = some (zq (zt_hid (I (M + 1)) k), (S, K0, R, T)) := fun k => by
    have := zzm_isHidden (d := d + 8) (I := K0) (K := K0) (T := T) (l := k) hm (by rw [k0P]; exact hwf) zo_ly_refl
    rw [k0P] at this
    exact this
  have len : ∀ k, 0 ≤ k → k < I (M + 1) 0 → zG (d + 10) 157 [.inr (.inr M), .inl k] (S, K0, R, T) = some (I (M + 1) (1 + k), (S, K0, R, T)) := fun k k1 k2 => by
    have := zzm_len (d := d + 9) (I := K0) (K := K0) (T := T) (l := k) hm (by rw [k0P]; exact hwf) zo_ly_refl (by rw [k0P]; exact ⟨k1, k2⟩)
    rw [k0P] at this
    exact this
  intro u
  induction u with
  | zero =>
    intro k w' k1 k2 k3 k4
    obtain ⟨w', rfl⟩ : ∃ w'', w' = w'' + 1 := ⟨w' - 1, by omega⟩
    have hv : v = -1 := by omega
    rw [hno hv, zk_209_82]
    ((try simp only [zbd_conv]); simp (disch := first | assumption | omega | trivial) only [↓reduceIte, zbd_some, eq_self, Int.reduceEq, Int.reduceLT, Int.reduceLE, and_self, or_true, true_or, or_false, false_or, if_pos, if_neg, if_true, if_false, true_and, and_true, not_true_eq_false, not_false_eq_true, false_and, and_false, Option.bind_some, zq_t, zq_f, zq0, zq1, zw_id, zmo_1 hm, zmo_r0 hm, zmo_s1 hm, isl])
  | succ u ih =>
    intro k w' k1 k2 k3 k4
    obtain ⟨w', rfl⟩ : ∃ w'', w' = w'' + 1 + 1 := ⟨w' - 2, by omega⟩
    rw [zk_209_82]
    by_cases g : k = v
    · subst g
      have nh : ¬ zt_hid (I (M + 1)) k := by
        rcases h2 with z | z
        · exact z.2.2
        · omega
      ((try simp only [zbd_conv]); simp (disch := first | assumption | omega | trivial) only [↓reduceIte, zbd_some, eq_self, Int.reduceEq, Int.reduceLT, Int.reduceLE, and_self, or_true, true_or, or_false, false_or, if_pos, if_neg, if_true, if_false, true_and, and_true, not_true_eq_false, not_false_eq_true, false_and, and_false, Option.bind_some, zq_t, zq_f, zq0, zq1, zw_id, zmo_1 hm, zmo_r0 hm, zmo_s1 hm, isl, hid, len k (by omega) (by omega)])
      exact hyes (by omega) w'
    · have yh : zt_hid (I (M + 1)) k := h1 k (by omega) k3
      ((try simp only [zbd_conv]); simp (disch := first | assumption | omega | trivial) only [↓reduceIte, zbd_some, eq_self, Int.reduceEq, Int.reduceLT, Int.reduceLE, and_self, or_true, true_or, or_false, false_or, if_pos, if_neg, if_true, if_false, true_and, and_true, not_true_eq_false, not_false_eq_true, false_and, and_false, Option.bind_some, zq_t, zq_f, zq0, zq1, zw_id, zmo_1 hm, zmo_r0 hm, zmo_s1 hm, isl, hid])
      exact ih (k + -1) (w' + 1) (by omega) (by omega) (by omega) (by omega)
theorem zzm_behind (hm : zs_mo S R M) (hwf : zw_page (I (M + 1))) {K0 : zI} {res : zR} (k0P : K0 (M + 1) = I (M + 1)) (hl : 0 ≤ l ∧ l < I (M + 1) 0) (h2 : (l < v ∧ v < I (M + 1) 0 ∧ ¬ zt_hid (I (M + 1)) v ∧ ∀ j, l < j → j < v → zt_hid (I (M + 1)) j) ∨ (v = -1 ∧ ∀ j, l < j → j < I (M + 1) 0 → zt_hid (I (M + 1)) j)) (hno : v = -1 → res = some (-4, (S, K0, R, T))) (hyes : 0 ≤ v → ∀ w', zi_run zt_209 (zG (d + 10)) (w' + 1) 131 [some (.inr (.inr M)), none, some (.inl v), some (.inl 0), none] [] (S, K0, R, T) = res) : ∀ (u : Nat) (k : Int) (w' : Nat), (u : Int) + k = I (M + 1) 0 → l < k → (0 ≤ v → k ≤ v) → u + 2 ≤ w' → zi_run zt_209 (zG (d + 10)) w' 82 [some (.inr (.inr M)), some (.inl 1), some (.inl k), none, some (.inl 1)] [] (S, K0, R, T) = res := by
  have h0 := hwf.1
  have isl : ∀ k, zG (d + 10) 190 [.inr (.inr M), .inl k] (S, K0, R, T) = some (zq (0 ≤ k ∧ k < I (M + 1) 0), (S, K0, R, T)) := fun k => by
    have := zzm_isLine (d := d + 8) (I := K0) (K := K0) (T := T) (l := k) hm (by rw [k0P]; exact hwf) zo_ly_refl
    rw [k0P] at this
    exact this
  have hid : ∀ k, zG (d + 10) 162 [.inr (.inr M), .inl k] (S, K0, R, T) = some (zq (zt_hid (I (M + 1)) k), (S, K0, R, T)) := fun k => by
    have := zzm_isHidden (d := d + 8) (I := K0) (K := K0) (T := T) (l := k) hm (by rw [k0P]; exact hwf) zo_ly_refl
    rw [k0P] at this
    exact this
  intro u
  induction u with
  | zero =>
    intro k w' k1 k2 k3 k4
    obtain ⟨w', rfl⟩ : ∃ w'', w' = w'' + 1 := ⟨w' - 1, by omega⟩
    have hv : v = -1 := by
      rcases h2 with z | z
      · have := k3 (by omega); omega
      · exact z.1
    rw [hno hv, zk_209_82]
    ((try simp only [zbd_conv]); simp (disch := first | assumption | omega | trivial) only [↓reduceIte, zbd_some, eq_self, Int.reduceEq, Int.reduceLT, Int.reduceLE, and_self, or_true, true_or, or_false, false_or, if_pos, if_neg, if_true, if_false, true_and, and_true, not_true_eq_false, not_false_eq_true, false_and, and_false, Option.bind_some, zq_t, zq_f, zq0, zq1, zw_id, zmo_1 hm, zmo_r0 hm, zmo_s1 hm, isl])
  | succ u ih =>
    intro k w' k1 k2 k3 k4
    obtain ⟨w', rfl⟩ : ∃ w'', w' = w'' + 1 + 1 := ⟨w' - 2, by omega⟩
    rw [zk_209_82]
    by_cases g : k = v
    · subst g
      have nh : ¬ zt_hid (I (M + 1)) k := by
        rcases h2 with z | z
        · exact z.2.2.1
        · omega
      ((try simp only [zbd_conv]); simp (disch := first | assumption | omega | trivial) only [↓reduceIte, zbd_some, eq_self, Int.reduceEq, Int.reduceLT, Int.reduceLE, and_self, or_true, true_or, or_false, false_or, if_pos, if_neg, if_true, if_false, true_and, and_true, not_true_eq_false, not_false_eq_true, false_and, and_false, Option.bind_some, zq_t, zq_f, zq0, zq1, zw_id, zmo_1 hm, zmo_r0 hm, zmo_s1 hm, isl, hid])
      exact hyes (by omega) w'
    · have yh : zt_hid (I (M + 1)) k := by
        rcases h2 with z | z
        · exact z.2.2.2 k k2 (by have := k3 (by omega); omega)
        · exact z.2 k k2 (by omega)
      ((try simp only [zbd_conv]); simp (disch := first | assumption | omega | trivial) only [↓reduceIte, zbd_some, eq_self, Int.reduceEq, Int.reduceLT, Int.reduceLE, and_self, or_true, true_or, or_false, false_or, if_pos, if_neg, if_true, if_false, true_and, and_true, not_true_eq_false, not_false_eq_true, false_and, and_false, Option.bind_some, zq_t, zq_f, zq0, zq1, zw_id, zmo_1 hm, zmo_r0 hm, zmo_s1 hm, isl, hid])
      exact ih (k + 1) (w' + 1) (by omega) (by omega) (fun z => by have := k3 z; omega) (by omega)
theorem zz_step (h : zR4 S I R X M) : zz_ok (d + 11) S I R T X M 120 209 [.inl x] := by
  obtain ⟨hc, hm, hap, hall⟩ := id h
  obtain ⟨⟨hrep, hwf⟩, -, hmo, -, hlay, hrz, -, -⟩ := zR4_facts h
  obtain ⟨f, hf⟩ : ∃ f, R X 6 = f := ⟨_, rfl⟩
  rw [hf] at hrep
  have hF := zcl_fr hc hf
  have lof := zs_fa_lo (zcl_fa6 hc hf)
  have h0 := hwf.1
  have oo : zo_ly I I M := zo_ly_refl
  by_cases gx : x = 0 ∨ x = 1
  · obtain ⟨w6, w7, w8⟩ := hwf.2.2.2.2.2
    have c6 : I f 2 = I (M + 1) 518 := hrep.2.2.2.2.2.1
    have c7 : I f 3 = I (M + 1) 519 := hrep.2.2.2.2.2.2
    obtain ⟨l, hl⟩ : ∃ l, l = I (M + 1) 518 := ⟨_, rfl⟩
    rw [← hl] at w6 w8 c6
    obtain ⟨i, hi⟩ : ∃ i, i = I (M + 1) 519 := ⟨_, rfl⟩
    rw [← hi] at w7 w8 c7
    have hn := hwf.2.1 l w6.1 w6.2
    have hll := zs_cl_ll hc (show 0 ≤ l ∧ l < 12 by omega)
    have ell : ∀ d, zG (d + 1) 78 [.inr (.inr (X + 135)), .inl l] (S, I, R, T) = some (X + 135 + 11 + 9 * l, (S, I, R, T)) := fun d => zx_laidLine (zcl_sc hc) (by omega)
    have pic : zr_pic I M (X + 135 + 11 + 9 * l) l := hlay l w6.1 w6.2
    have hk4 := hll.2.1
    -- a stop of line v: the class goes there
    have mvc : ∀ v p, (0 ≤ v ∧ v < I (M + 1) 0) → (0 ≤ p ∧ p ≤ I (M + 1) (1 + v)) → zG (d + 10) 141 [.inr (.inr X), .inl v, .inl p] (S, I, R, T) = some (0, (S, zp_mv I X f v p (I (X + 135 + 11 + 9 * v + 2) p), R, T)) := fun v p hv hp => by
      have := hwf.2.1 v hv.1 hv.2
      exact zx_mv (d := d + 6) hc hf (by omega) (by omega)
    have st0 : ∀ v, (0 ≤ v ∧ v < I (M + 1) 0) → I (X + 135 + 11 + 9 * v + 5) 0 = 1 ∧ I (X + 135 + 11 + 9 * v + 5) (I (M + 1) (1 + v)) = 1 := fun v hv => by
      have pv : zr_pic I M (X + 135 + 11 + 9 * v) v := hlay v hv.1 hv.2
      have nv := hwf.2.1 v hv.1 hv.2
      exact ⟨by rw [pv.2.2.2.1 0 (by omega) nv.1]; exact zq_t (Or.inl rfl), by rw [pv.2.2.2.1 _ nv.1 (Int.le_refl _)]; exact zq_t (Or.inr (Or.inl rfl))⟩
    have mst : ∀ v p K0 K2, zG (d + 10) 205 [.inr (.inr M)] (S, zi_up (zi_up K0 (M + 1) 518 v) (M + 1) 519 p, R, T) = some (0, (S, K2, R, T)) → ∀ w', zi_run zt_209 (zG (d + 10)) (w' + 1) 131 [some (.inr (.inr M)), none, some (.inl v), some (.inl p), none] [] (S, K0, R, T) = some (p, (S, K2, R, T)) := fun v p K0 K2 hs w' => zzm_put131 hm hs
    have jP : ∀ v p c, zp_mv I X f v p c (M + 1) = I (M + 1) := fun v p c => zp_mv_off (by omega) (by omega)
    rcases gx with gx | gx <;> subst gx
    · obtain ⟨y, y1, y2⟩ := zx_stopAhead (d := d + 7) (I := I) (T := T) (i := i) hll (by omega)
      have msa : ∀ K0, K0 (M + 1) = I (M + 1) → zr_mok I K0 M l → zG (d + 10) 207 [.inr (.inr M), .inl l, .inl i] (S, K0, R, T) = some (if y < 0 then -4 else y, (S, K0, R, T)) := fun K0 k0P k0m => by
        obtain ⟨y', z1, z2⟩ := zy_stopAhead (d := d + 7) (I := K0) (T := T) (l := l) (i := i) (n := I (M + 1) (1 + l)) hm (by omega) (by rw [k0P]) hn ⟨w7, w8⟩
        rw [k0P] at z2
        have : y' = y := (zl_pv_uniq y2 z2 (fun k k1 k2 => zl_stop_both hn.1 pic k0m (by omega))).symm
        rw [this] at z1
        exact z1
      by_cases gy : y < 0
      · have hy : y = -1 := by
          rcases y2.1 with z | z
          · omega
          · exact z
        obtain ⟨v, v1, v2, v3⟩ := zx_shownAhead (d := d + 6) (I := I) (T := T) hF (by rw [hrep.2.2.2.1]; exact hwf.2.2.1.2) (by rw [c6]; omega)
        rw [c6] at v2 v3
        have v2' : ∀ j, v < j → j < l → zt_hid (I (M + 1)) j := fun j j1 j2 => (zf_hid_iff hrep).mp (v2 j j1 j2)
        have v3' : (0 ≤ v ∧ v < l ∧ ¬ zt_hid (I (M + 1)) v) ∨ v = -1 := by
          rcases v3 with ⟨a1, a2, a3⟩ | a1
          · exact Or.inl ⟨a1, a2, fun z => a3 ((zf_hid_iff hrep).mpr z)⟩
          · exact Or.inr a1
        by_cases gv : v < 0
        · have hv : v = -1 := by rcases v3' with z | z <;> omega
          obtain ⟨K0, b1, b2, b3⟩ := zzm_lays (d := d + 5) (T := T) hm hmo hwf oo w6
          have fnd := zzm_ahead (d := d) (T := T) (res := some (-4, (S, K0, R, T))) hm hwf (zo_P b2) w6 v2' v3' (fun _ => rfl) (fun z => absurd z (by omega)) l.toNat (l - 1) 19999 (by omega) (by omega) (by omega) (by omega)
          have msa' := msa K0 (zo_P b2) b3
          refine zz_read (v := -4) h ?_ (K := K0) ?_ b2
          · rw [zm_120]
            ((try simp only [zbd_conv]); simp (disch := first | assumption | omega | trivial) only [↓reduceIte, zbd_some, eq_self, Int.reduceEq, Int.reduceLT, Int.reduceLE, and_self, or_true, true_or, or_false, false_or, if_pos, if_neg, if_true, if_false, true_and, and_true, not_true_eq_false, not_false_eq_true, false_and, and_false, Option.bind_some, zq_t, zq_f, zq0, zq1, zw_id, zcl_x1 hc, hf, zfr_k hF, zfr_r0 hF, zfr_r1 hF, zfr_lk hF, zfr_fk hF, zcl_c3 hc, (zcl_sc hc).2.1, c6, c7, ell, hk4, y1])
            rw [zk_120_55]
            ((try simp only [zbd_conv]); simp (disch := first | assumption | omega | trivial) only [↓reduceIte, zbd_some, eq_self, Int.reduceEq, Int.reduceLT, Int.reduceLE, and_self, or_true, true_or, or_false, false_or, if_pos, if_neg, if_true, if_false, true_and, and_true, not_true_eq_false, not_false_eq_true, false_and, and_false, Option.bind_some, zq_t, zq_f, zq0, zq1, zw_id, zcl_x1 hc, hf, zfr_k hF, zfr_r0 hF, zfr_r1 hF, zfr_lk hF, zfr_fk hF, zcl_c3 hc, (zcl_sc hc).2.1, v1])
            rw [zk_120_95]
            ((try simp only [zbd_conv]); simp (disch := first | assumption | omega | trivial) only [↓reduceIte, zbd_some, eq_self, Int.reduceEq, Int.reduceLT, Int.reduceLE, and_self, or_true, true_or, or_false, false_or, if_pos, if_neg, if_true, if_false, true_and, and_true, not_true_eq_false, not_false_eq_true, false_and, and_false, Option.bind_some, zq_t, zq_f, zq0, zq1, zw_id])
          · rw [zm_209]
            rw [if_pos gy] at msa'
            ((try simp only [zbd_conv]); simp (disch := first | assumption | omega | trivial) only [↓reduceIte, zbd_some, eq_self, Int.reduceEq, Int.reduceLT, Int.reduceLE, and_self, or_true, true_or, or_false, false_or, if_pos, if_neg, if_true, if_false, true_and, and_true, not_true_eq_false, not_false_eq_true, false_and, and_false, Option.bind_some, zq_t, zq_f, zq0, zq1, zw_id, zmo_1 hm, zmo_r0 hm, zmo_s1 hm, zy_in, hl.symm, b1, zo_P b2, hi.symm, msa'])
            exact fnd
        · have hv : 0 ≤ v ∧ v < l ∧ ¬ zt_hid (I (M + 1)) v := by
            rcases v3' with z | z
            · exact z
            · omega
          have hnv := hwf.2.1 v hv.1 (by omega)
          obtain ⟨K0, K2, a1, a2, a3, a4, a5, a6⟩ := zz_mvmain (d := d) (T := T) h hf w6 (v := v) (p := I (M + 1) (1 + v)) (by omega) ⟨hnv.1, Int.le_refl _⟩ (st0 v (by omega)).2
          have fnd := zzm_ahead (d := d) (T := T) (res := some (I (M + 1) (1 + v), (S, K2, R, T))) hm hwf a4 w6 v2' v3' (fun z => absurd z (by omega)) (fun _ w' => mst v _ K0 K2 a5 w') l.toNat (l - 1) 19999 (by omega) (by omega) (by omega) (by omega)
          have msa' := msa K0 a4 a3
          rw [if_pos gy] at msa'
          have mv := mvc v (I (M + 1) (1 + v)) (by omega) ⟨hnv.1, Int.le_refl _⟩
          have f3 : zp_mv I X f v (I (M + 1) (1 + v)) (I (X + 135 + 11 + 9 * v + 2) (I (M + 1) (1 + v))) f 3 = I (M + 1) (1 + v) := by rw [zp_mv_f (by omega), zu_eq ⟨rfl, rfl⟩]
          refine ⟨I (M + 1) (1 + v), zp_mv I X f v (I (M + 1) (1 + v)) (I (X + 135 + 11 + 9 * v + 2) (I (M + 1) (1 + v))), R, K2, ?_, ?_, a6⟩
          · rw [zm_120]
            ((try simp only [zbd_conv]); simp (disch := first | assumption | omega | trivial) only [↓reduceIte, zbd_some, eq_self, Int.reduceEq, Int.reduceLT, Int.reduceLE, and_self, or_true, true_or, or_false, false_or, if_pos, if_neg, if_true, if_false, true_and, and_true, not_true_eq_false, not_false_eq_true, false_and, and_false, Option.bind_some, zq_t, zq_f, zq0, zq1, zw_id, zcl_x1 hc, hf, zfr_k hF, zfr_r0 hF, zfr_r1 hF, zfr_lk hF, zfr_fk hF, zcl_c3 hc, (zcl_sc hc).2.1, c6, c7, ell, hk4, y1])
            rw [zk_120_55]
            ((try simp only [zbd_conv]); simp (disch := first | assumption | omega | trivial) only [↓reduceIte, zbd_some, eq_self, Int.reduceEq, Int.reduceLT, Int.reduceLE, and_self, or_true, true_or, or_false, false_or, if_pos, if_neg, if_true, if_false, true_and, and_true, not_true_eq_false, not_false_eq_true, false_and, and_false, Option.bind_some, zq_t, zq_f, zq0, zq1, zw_id, zcl_x1 hc, hf, zfr_k hF, zfr_r0 hF, zfr_r1 hF, zfr_lk hF, zfr_fk hF, zcl_c3 hc, (zcl_sc hc).2.1, v1])
            rw [zk_120_95]
            ((try simp only [zbd_conv]); simp (disch := first | assumption | omega | trivial) only [↓reduceIte, zbd_some, eq_self, Int.reduceEq, Int.reduceLT, Int.reduceLE, and_self, or_true, true_or, or_false, false_or, if_pos, if_neg, if_true, if_false, true_and, and_true, not_true_eq_false, not_false_eq_true, false_and, and_false, Option.bind_some, zq_t, zq_f, zq0, zq1, zw_id, zcl_x1 hc, hf, zfr_k hF, zfr_r0 hF, zfr_r1 hF, zfr_lk hF, zfr_fk hF, zcl_c3 hc, (zcl_sc hc).2.1, zzc_length hF hrep hwf, mv, f3])
          · rw [zm_209]
            ((try simp only [zbd_conv]); simp (disch := first | assumption | omega | trivial) only [↓reduceIte, zbd_some, eq_self, Int.reduceEq, Int.reduceLT, Int.reduceLE, and_self, or_true, true_or, or_false, false_or, if_pos, if_neg, if_true, if_false, true_and, and_true, not_true_eq_false, not_false_eq_true, false_and, and_false, Option.bind_some, zq_t, zq_f, zq0, zq1, zw_id, zmo_1 hm, zmo_r0 hm, zmo_s1 hm, zy_in, jP, hl.symm, a2, a4, hi.symm, msa'])
            exact fnd
      · have hy : 0 ≤ y ∧ y < i ∧ I (X + 135 + 11 + 9 * l + 5) y = 1 := by
          rcases y2.1 with z | z
          · exact z
          · omega
        obtain ⟨K0, K2, a1, a2, a3, a4, a5, a6⟩ := zz_mvmain (d := d) (T := T) h hf w6 (v := l) (p := y) w6 (by omega) hy.2.2
        have msa' := msa K0 a4 a3
        rw [if_neg gy] at msa'
        have mv := mvc l y w6 (by omega)
        have hy4 : ¬ y = -4 := by omega
        refine ⟨y, zp_mv I X f l y (I (X + 135 + 11 + 9 * l + 2) y), R, K2, ?_, ?_, a6⟩
        · rw [zm_120]
          ((try simp only [zbd_conv]); simp (disch := first | assumption | omega | trivial) only [↓reduceIte, zbd_some, eq_self, Int.reduceEq, Int.reduceLT, Int.reduceLE, and_self, or_true, true_or, or_false, false_or, if_pos, if_neg, if_true, if_false, true_and, and_true, not_true_eq_false, not_false_eq_true, false_and, and_false, Option.bind_some, zq_t, zq_f, zq0, zq1, zw_id, zcl_x1 hc, hf, zfr_k hF, zfr_r0 hF, zfr_r1 hF, zfr_lk hF, zfr_fk hF, zcl_c3 hc, (zcl_sc hc).2.1, c6, c7, ell, hk4, y1])
          rw [zk_120_55]
          ((try simp only [zbd_conv]); simp (disch := first | assumption | omega | trivial) only [↓reduceIte, zbd_some, eq_self, Int.reduceEq, Int.reduceLT, Int.reduceLE, and_self, or_true, true_or, or_false, false_or, if_pos, if_neg, if_true, if_false, true_and, and_true, not_true_eq_false, not_false_eq_true, false_and, and_false, Option.bind_some, zq_t, zq_f, zq0, zq1, zw_id, zcl_x1 hc, hf, zfr_k hF, zfr_r0 hF, zfr_r1 hF, zfr_lk hF, zfr_fk hF, zcl_c3 hc, (zcl_sc hc).2.1, c6, mv])
        · rw [zm_209]
          ((try simp only [zbd_conv]); simp (disch := first | assumption | omega | trivial) only [↓reduceIte, zbd_some, eq_self, Int.reduceEq, Int.reduceLT, Int.reduceLE, and_self, or_true, true_or, or_false, false_or, if_pos, if_neg, if_true, if_false, true_and, and_true, not_true_eq_false, not_false_eq_true, false_and, and_false, Option.bind_some, zq_t, zq_f, zq0, zq1, zw_id, zmo_1 hm, zmo_r0 hm, zmo_s1 hm, zy_in, jP, hl.symm, a2, a4, hi.symm, msa'])
          exact mst l y K0 K2 a5 19998
    · obtain ⟨y, y1, y2⟩ := zx_stopBehind (d := d + 6) (I := I) (T := T) (i := i) hll (by rw [pic.1]; exact ⟨w7, w8⟩) (by rw [pic.1]; exact hn.2)
      rw [pic.1] at y2
      have msa : ∀ K0, K0 (M + 1) = I (M + 1) → zr_mok I K0 M l → zG (d + 10) 208 [.inr (.inr M), .inl l, .inl i] (S, K0, R, T) = some (if y < 0 then -4 else y, (S, K0, R, T)) := fun K0 k0P k0m => by
        obtain ⟨y', z1, z2⟩ := zy_stopBehind (d := d + 7) (I := K0) (T := T) (l := l) (i := i) (n := I (M + 1) (1 + l)) hm (by omega) (by rw [k0P]) hn ⟨w7, w8⟩
        rw [k0P] at z2
        rw [z1]
        refine zr_val ?_
        rcases y2 with ⟨a1, a2⟩ | ⟨a1, a2⟩
        · rcases z2 with ⟨b1, b2⟩ | ⟨b1, b2⟩
          · have : y = y' := zl_nx_uniq a2 b2 (fun k k1 k2 => zl_stop_both hn.1 pic k0m (by omega))
            have := a2.1
            rw [if_neg (by omega)]
            omega
          · omega
        · rcases z2 with ⟨b1, b2⟩ | ⟨b1, b2⟩
          · omega
          · rw [if_pos (by omega), b2]
      by_cases gy : y < 0
      · obtain ⟨v, v1, v2⟩ := zx_shownBehind (d := d + 6) (I := I) (T := T) hF (by rw [hrep.2.2.2.1]; exact hwf.2.2.1.2) (by rw [hrep.1]; omega) (by rw [c6, hrep.1]; exact w6)
        rw [c6, hrep.1] at v2
        have v2' : (l < v ∧ v < I (M + 1) 0 ∧ ¬ zt_hid (I (M + 1)) v ∧ ∀ j, l < j → j < v → zt_hid (I (M + 1)) j) ∨ (v = -1 ∧ ∀ j, l < j → j < I (M + 1) 0 → zt_hid (I (M + 1)) j) := by
          rcases v2 with ⟨a1, a2, a3, a4⟩ | ⟨a1, a2⟩
          · exact Or.inl ⟨a1, a2, fun z => a3 ((zf_hid_iff hrep).mpr z), fun j j1 j2 => (zf_hid_iff hrep).mp (a4 j j1 j2)⟩
          · exact Or.inr ⟨a1, fun j j1 j2 => (zf_hid_iff hrep).mp (a2 j j1 j2)⟩
        by_cases gv : v < 0
        · have hv : v = -1 := by rcases v2' with z | z <;> omega
          obtain ⟨K0, b1, b2, b3⟩ := zzm_lays (d := d + 5) (T := T) hm hmo hwf oo w6
          have fnd := zzm_behind (d := d) (T := T) (res := some (-4, (S, K0, R, T))) hm hwf (zo_P b2) w6 v2' (fun _ => rfl) (fun z => absurd z (by omega)) (I (M + 1) 0 - (l + 1)).toNat (l + 1) 19999 (by omega) (by omega) (fun z => by omega) (by omega)
          have msa' := msa K0 (zo_P b2) b3
          rw [if_pos gy] at msa'
          refine zz_read (v := -4) h ?_ (K := K0) ?_ b2
          · rw [zm_120]
            ((try simp only [zbd_conv]); simp (disch := first | assumption | omega | trivial) only [↓reduceIte, zbd_some, eq_self, Int.reduceEq, Int.reduceLT, Int.reduceLE, and_self, or_true, true_or, or_false, false_or, if_pos, if_neg, if_true, if_false, true_and, and_true, not_true_eq_false, not_false_eq_true, false_and, and_false, Option.bind_some, zq_t, zq_f, zq0, zq1, zw_id, zcl_x1 hc, hf, zfr_k hF, zfr_r0 hF, zfr_r1 hF, zfr_lk hF, zfr_fk hF, zcl_c3 hc, (zcl_sc hc).2.1, c6, c7, ell, hk4, y1])
            rw [zk_120_55]
            ((try simp only [zbd_conv]); simp (disch := first | assumption | omega | trivial) only [↓reduceIte, zbd_some, eq_self, Int.reduceEq, Int.reduceLT, Int.reduceLE, and_self, or_true, true_or, or_false, false_or, if_pos, if_neg, if_true, if_false, true_and, and_true, not_true_eq_false, not_false_eq_true, false_and, and_false, Option.bind_some, zq_t, zq_f, zq0, zq1, zw_id, zcl_x1 hc, hf, zfr_k hF, zfr_r0 hF, zfr_r1 hF, zfr_lk hF, zfr_fk hF, zcl_c3 hc, (zcl_sc hc).2.1, v1])
            rw [zk_120_95]
            ((try simp only [zbd_conv]); simp (disch := first | assumption | omega | trivial) only [↓reduceIte, zbd_some, eq_self, Int.reduceEq, Int.reduceLT, Int.reduceLE, and_self, or_true, true_or, or_false, false_or, if_pos, if_neg, if_true, if_false, true_and, and_true, not_true_eq_false, not_false_eq_true, false_and, and_false, Option.bind_some, zq_t, zq_f, zq0, zq1, zw_id])
          · rw [zm_209]
            ((try simp only [zbd_conv]); simp (disch := first | assumption | omega | trivial) only [↓reduceIte, zbd_some, eq_self, Int.reduceEq, Int.reduceLT, Int.reduceLE, and_self, or_true, true_or, or_false, false_or, if_pos, if_neg, if_true, if_false, true_and, and_true, not_true_eq_false, not_false_eq_true, false_and, and_false, Option.bind_some, zq_t, zq_f, zq0, zq1, zw_id, zmo_1 hm, zmo_r0 hm, zmo_s1 hm, zy_in, hl.symm, b1, zo_P b2, hi.symm, msa'])
            exact fnd
        · have hv : l < v ∧ v < I (M + 1) 0 := by rcases v2' with z | z <;> omega
          have hnv := hwf.2.1 v (by omega) hv.2
          obtain ⟨K0, K2, a1, a2, a3, a4, a5, a6⟩ := zz_mvmain (d := d) (T := T) h hf w6 (v := v) (p := 0) (by omega) ⟨Int.le_refl _, hnv.1⟩ (st0 v (by omega)).1
          have fnd := zzm_behind (d := d) (T := T) (res := some (0, (S, K2, R, T))) hm hwf a4 w6 v2' (fun z => absurd z (by omega)) (fun _ w' => mst v _ K0 K2 a5 w') (I (M + 1) 0 - (l + 1)).toNat (l + 1) 19999 (by omega) (by omega) (fun z => by omega) (by omega)
          have msa' := msa K0 a4 a3
          rw [if_pos gy] at msa'
          have mv := mvc v 0 (by omega) ⟨Int.le_refl _, hnv.1⟩
          have f3 : zp_mv I X f v 0 (I (X + 135 + 11 + 9 * v + 2) 0) f 3 = 0 := by rw [zp_mv_f (by omega), zu_eq ⟨rfl, rfl⟩]
          refine ⟨0, zp_mv I X f v 0 (I (X + 135 + 11 + 9 * v + 2) 0), R, K2, ?_, ?_, a6⟩
          · rw [zm_120]
            ((try simp only [zbd_conv]); simp (disch := first | assumption | omega | trivial) only [↓reduceIte, zbd_some, eq_self, Int.reduceEq, Int.reduceLT, Int.reduceLE, and_self, or_true, true_or, or_false, false_or, if_pos, if_neg, if_true, if_false, true_and, and_true, not_true_eq_false, not_false_eq_true, false_and, and_false, Option.bind_some, zq_t, zq_f, zq0, zq1, zw_id, zcl_x1 hc, hf, zfr_k hF, zfr_r0 hF, zfr_r1 hF, zfr_lk hF, zfr_fk hF, zcl_c3 hc, (zcl_sc hc).2.1, c6, c7, ell, hk4, y1])
            rw [zk_120_55]
            ((try simp only [zbd_conv]); simp (disch := first | assumption | omega | trivial) only [↓reduceIte, zbd_some, eq_self, Int.reduceEq, Int.reduceLT, Int.reduceLE, and_self, or_true, true_or, or_false, false_or, if_pos, if_neg, if_true, if_false, true_and, and_true, not_true_eq_false, not_false_eq_true, false_and, and_false, Option.bind_some, zq_t, zq_f, zq0, zq1, zw_id, zcl_x1 hc, hf, zfr_k hF, zfr_r0 hF, zfr_r1 hF, zfr_lk hF, zfr_fk hF, zcl_c3 hc, (zcl_sc hc).2.1, v1])
            rw [zk_120_95]
            ((try simp only [zbd_conv]); simp (disch := first | assumption | omega | trivial) only [↓reduceIte, zbd_some, eq_self, Int.reduceEq, Int.reduceLT, Int.reduceLE, and_self, or_true, true_or, or_false, false_or, if_pos, if_neg, if_true, if_false, true_and, and_true, not_true_eq_false, not_false_eq_true, false_and, and_false, Option.bind_some, zq_t, zq_f, zq0, zq1, zw_id, zcl_x1 hc, hf, zfr_k hF, zfr_r0 hF, zfr_r1 hF, zfr_lk hF, zfr_fk hF, zcl_c3 hc, (zcl_sc hc).2.1, mv, f3])
          · rw [zm_209]
            ((try simp only [zbd_conv]); simp (disch := first | assumption | omega | trivial) only [↓reduceIte, zbd_some, eq_self, Int.reduceEq, Int.reduceLT, Int.reduceLE, and_self, or_true, true_or, or_false, false_or, if_pos, if_neg, if_true, if_false, true_and, and_true, not_true_eq_false, not_false_eq_true, false_and, and_false, Option.bind_some, zq_t, zq_f, zq0, zq1, zw_id, zmo_1 hm, zmo_r0 hm, zmo_s1 hm, zy_in, jP, hl.symm, a2, a4, hi.symm, msa'])
            exact fnd
      · have hy : i < I (M + 1) (1 + l) ∧ zl_nx (i + 1) (I (M + 1) (1 + l)) (fun j => I (X + 135 + 11 + 9 * l + 5) j = 1) y := by
          rcases y2 with z | z
          · exact z
          · omega
        have hyb := hy.2.1
        have hyc := hy.2.2.1
        have hys : I (X + 135 + 11 + 9 * l + 5) y = 1 := by
          rcases hy.2.2.2.1 with z | z
          · rw [z]; exact (st0 l w6).2
          · exact z
        obtain ⟨K0, K2, a1, a2, a3, a4, a5, a6⟩ := zz_mvmain (d := d) (T := T) h hf w6 (v := l) (p := y) w6 (by omega) hys
        have msa' := msa K0 a4 a3
        rw [if_neg gy] at msa'
        have mv := mvc l y w6 (by omega)
        have hy4 : ¬ y = -4 := by omega
        refine ⟨y, zp_mv I X f l y (I (X + 135 + 11 + 9 * l + 2) y), R, K2, ?_, ?_, a6⟩
        · rw [zm_120]
          ((try simp only [zbd_conv]); simp (disch := first | assumption | omega | trivial) only [↓reduceIte, zbd_some, eq_self, Int.reduceEq, Int.reduceLT, Int.reduceLE, and_self, or_true, true_or, or_false, false_or, if_pos, if_neg, if_true, if_false, true_and, and_true, not_true_eq_false, not_false_eq_true, false_and, and_false, Option.bind_some, zq_t, zq_f, zq0, zq1, zw_id, zcl_x1 hc, hf, zfr_k hF, zfr_r0 hF, zfr_r1 hF, zfr_lk hF, zfr_fk hF, zcl_c3 hc, (zcl_sc hc).2.1, c6, c7, ell, hk4, y1])
          rw [zk_120_55]
          ((try simp only [zbd_conv]); simp (disch := first | assumption | omega | trivial) only [↓reduceIte, zbd_some, eq_self, Int.reduceEq, Int.reduceLT, Int.reduceLE, and_self, or_true, true_or, or_false, false_or, if_pos, if_neg, if_true, if_false, true_and, and_true, not_true_eq_false, not_false_eq_true, false_and, and_false, Option.bind_some, zq_t, zq_f, zq0, zq1, zw_id, zcl_x1 hc, hf, zfr_k hF, zfr_r0 hF, zfr_r1 hF, zfr_lk hF, zfr_fk hF, zcl_c3 hc, (zcl_sc hc).2.1, c6, mv])
        · rw [zm_209]
          ((try simp only [zbd_conv]); simp (disch := first | assumption | omega | trivial) only [↓reduceIte, zbd_some, eq_self, Int.reduceEq, Int.reduceLT, Int.reduceLE, and_self, or_true, true_or, or_false, false_or, if_pos, if_neg, if_true, if_false, true_and, and_true, not_true_eq_false, not_false_eq_true, false_and, and_false, Option.bind_some, zq_t, zq_f, zq0, zq1, zw_id, zmo_1 hm, zmo_r0 hm, zmo_s1 hm, zy_in, jP, hl.symm, a2, a4, hi.symm, msa'])
          exact mst l y K0 K2 a5 19998
  · refine zz_read (v := -1) h ?_ ?_ oo
    · rw [zm_120]
      ((try simp only [zbd_conv]); simp (disch := first | assumption | omega | trivial) only [↓reduceIte, zbd_some, eq_self, Int.reduceEq, Int.reduceLT, Int.reduceLE, and_self, or_true, true_or, or_false, false_or, if_pos, if_neg, if_true, if_false, true_and, and_true, not_true_eq_false, not_false_eq_true, false_and, and_false, Option.bind_some, zq_t, zq_f, zq0, zq1, zw_id])
    · rw [zm_209]
      ((try simp only [zbd_conv]); simp (disch := first | assumption | omega | trivial) only [↓reduceIte, zbd_some, eq_self, Int.reduceEq, Int.reduceLT, Int.reduceLE, and_self, or_true, true_or, or_false, false_or, if_pos, if_neg, if_true, if_false, true_and, and_true, not_true_eq_false, not_false_eq_true, false_and, and_false, Option.bind_some, zq_t, zq_f, zq0, zq1, zw_id, zy_in])
end ZMy
