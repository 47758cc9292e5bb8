/-! the reference: a line is laid -/
theorem zmo_r0 {S : zS} {R : zI} {a : Int} (h : zs_mo S R a) : R a 0 = a + 1 := h.2.1.1
theorem zmo_r1 {S : zS} {R : zI} {a : Int} (h : zs_mo S R a) : R a 1 = a + 2 := h.2.1.2.1
theorem zmo_r2 {S : zS} {R : zI} {a : Int} (h : zs_mo S R a) : R a 2 = a + 3 := h.2.1.2.2.1
theorem zmo_r3 {S : zS} {R : zI} {a : Int} (h : zs_mo S R a) : R a 3 = a + 4 := h.2.1.2.2.2.1
theorem zmo_r11 {S : zS} {R : zI} {a : Int} (h : zs_mo S R a) : R a 11 = a + 5 := h.2.1.2.2.2.2.1
theorem zmo_r14 {S : zS} {R : zI} {a : Int} (h : zs_mo S R a) : R a 14 = a + 6 := h.2.1.2.2.2.2.2.1
theorem zmo_r17 {S : zS} {R : zI} {a : Int} (h : zs_mo S R a) : R a 17 = a + 7 := h.2.1.2.2.2.2.2.2.1
theorem zmo_r18 {S : zS} {R : zI} {a : Int} (h : zs_mo S R a) : R a 18 = a + 8 := h.2.1.2.2.2.2.2.2.2.1
theorem zmo_r19 {S : zS} {R : zI} {a : Int} (h : zs_mo S R a) : R a 19 = a + 9 := h.2.1.2.2.2.2.2.2.2.2.1
theorem zmo_r20 {S : zS} {R : zI} {a : Int} (h : zs_mo S R a) : R a 20 = a + 10 := h.2.1.2.2.2.2.2.2.2.2.2.1
theorem zmo_r21 {S : zS} {R : zI} {a : Int} (h : zs_mo S R a) : R a 21 = a + 11 := h.2.1.2.2.2.2.2.2.2.2.2.2.1
theorem zmo_r24 {S : zS} {R : zI} {a : Int} (h : zs_mo S R a) : R a 24 = a + 12 := h.2.1.2.2.2.2.2.2.2.2.2.2.2.1
theorem zmo_r25 {S : zS} {R : zI} {a : Int} (h : zs_mo S R a) : R a 25 = a + 13 := h.2.1.2.2.2.2.2.2.2.2.2.2.2.2.1
theorem zmo_r26 {S : zS} {R : zI} {a : Int} (h : zs_mo S R a) : R a 26 = a + 14 := h.2.1.2.2.2.2.2.2.2.2.2.2.2.2.2.1
theorem zmo_r27 {S : zS} {R : zI} {a : Int} (h : zs_mo S R a) : R a 27 = a + 15 := h.2.1.2.2.2.2.2.2.2.2.2.2.2.2.2.2.1
theorem zmo_r28 {S : zS} {R : zI} {a : Int} (h : zs_mo S R a) : R a 28 = a + 16 := h.2.1.2.2.2.2.2.2.2.2.2.2.2.2.2.2.2
theorem zmo_s1 {S : zS} {R : zI} {a : Int} (h : zs_mo S R a) : S (a + 1) = (12, 520) := h.2.2.1
theorem zmo_s2 {S : zS} {R : zI} {a : Int} (h : zs_mo S R a) : S (a + 2) = (12, 520) := h.2.2.2.1
theorem zmo_s3 {S : zS} {R : zI} {a : Int} (h : zs_mo S R a) : S (a + 3) = (12, 8320) := h.2.2.2.2.1
theorem zmo_s4 {S : zS} {R : zI} {a : Int} (h : zs_mo S R a) : S (a + 4) = (12, 8320) := h.2.2.2.2.2.1
theorem zmo_s5 {S : zS} {R : zI} {a : Int} (h : zs_mo S R a) : S (a + 5) = (12, 400) := h.2.2.2.2.2.2.1
theorem zmo_s6 {S : zS} {R : zI} {a : Int} (h : zs_mo S R a) : S (a + 6) = (12, 8) := h.2.2.2.2.2.2.2.1
theorem zmo_s7 {S : zS} {R : zI} {a : Int} (h : zs_mo S R a) : S (a + 7) = (12, 41) := h.2.2.2.2.2.2.2.2.1
theorem zmo_s8 {S : zS} {R : zI} {a : Int} (h : zs_mo S R a) : S (a + 8) = (12, 41) := h.2.2.2.2.2.2.2.2.2.1
theorem zmo_s9 {S : zS} {R : zI} {a : Int} (h : zs_mo S R a) : S (a + 9) = (12, 41) := h.2.2.2.2.2.2.2.2.2.2.1
theorem zmo_s10 {S : zS} {R : zI} {a : Int} (h : zs_mo S R a) : S (a + 10) = (13, 41) := h.2.2.2.2.2.2.2.2.2.2.2.1
theorem zmo_s11 {S : zS} {R : zI} {a : Int} (h : zs_mo S R a) : S (a + 11) = (12, 42) := h.2.2.2.2.2.2.2.2.2.2.2.2.1
theorem zmo_s12 {S : zS} {R : zI} {a : Int} (h : zs_mo S R a) : S (a + 12) = (13, 2) := h.2.2.2.2.2.2.2.2.2.2.2.2.2.1
theorem zmo_s13 {S : zS} {R : zI} {a : Int} (h : zs_mo S R a) : S (a + 13) = (12, 1048) := h.2.2.2.2.2.2.2.2.2.2.2.2.2.2.1
theorem zmo_s14 {S : zS} {R : zI} {a : Int} (h : zs_mo S R a) : S (a + 14) = (12, 4) := h.2.2.2.2.2.2.2.2.2.2.2.2.2.2.2.1
theorem zmo_s15 {S : zS} {R : zI} {a : Int} (h : zs_mo S R a) : S (a + 15) = (12, 4) := h.2.2.2.2.2.2.2.2.2.2.2.2.2.2.2.2.1
theorem zmo_s16 {S : zS} {R : zI} {a : Int} (h : zs_mo S R a) : S (a + 16) = (12, 80) := h.2.2.2.2.2.2.2.2.2.2.2.2.2.2.2.2.2
theorem zu_row {I : zI} {a k v : Int} : zi_up I a k v a = zt_up (I a) k v := by
  funext j
  rw [zi_up_at, zt_up_at]
  by_cases g : j = k
  · rw [if_pos ⟨rfl, g⟩, if_pos g]
  · rw [if_neg (by omega), if_neg g]
/-- a line as the reference has laid it -/
def zl_mok (n w t m ind : Int) (s : Int → Int) (J : zI) (a : Int) : Prop := zl_ok n w t m ind s (J a 22) (J (a + 7)) (J (a + 8)) (J (a + 9)) (J (a + 10)) (J (a + 11)) ∧ J a 23 = ind ∧ J (a + 9) n = 0 ∧ J (a + 10) n = 0
theorem zl_ind_ir {n w t m e : Int} {s : Int → Int} (hw : 4 ≤ w ∧ w ≤ 40) (he : 0 ≤ e) (hl : 0 ≤ zl_lead n t s 41 0 0) : 0 ≤ zl_ind n w t m e s ∧ zl_ind n w t m e s ≤ w / 2 := by
  unfold zl_ind
  split
  · omega
  · split <;> omega
theorem zl_lead_nn {n t : Int} {s : Int → Int} (ht : 1 ≤ t) : ∀ (u : Nat) (k c : Int), 0 ≤ c → 0 ≤ zl_lead n t s u k c
  | 0, k, c, h => h
  | u + 1, k, c, h => by
    show 0 ≤ if k < n ∧ (s k = 32 ∨ s k = 9) then zl_lead n t s u (k + 1) (c + (if s k = 9 then t - c % t else 1)) else c
    have m2 := Int.emod_lt_of_pos c (show 0 < t by omega)
    split
    · refine zl_lead_nn ht u (k + 1) _ ?_
      split <;> omega
    · exact h
section ZMm
variable {d : Nat} {S : zS} {I J R : zI} {T : Int × Nat} {a b n v l f c m k x y z r i p col : Int}
theorem zy_layEnd (h : zs_mo S R a) {n w t m ind rr : Int} {s : Int → Int} {B : Int → Int} {w' : Nat} {M : zI} (hn2 : 0 ≤ n ∧ n ≤ 40) (k2 : 0 ≤ rr) (ho : zo_ly I M a) (m22 : M a 22 = rr + 1) (m23 : M a 23 = ind) (hj : zl_jnv n w t m ind s (M (a + 7)) (M (a + 8)) (M (a + 9)) (M (a + 10)) (M (a + 11)) rr B n) : ∃ J, zi_run zt_180 (zG (d + 4)) (w' + 1) 41 [some (.inr (.inr a)), some (.inl l), some (.inl n), some (.inl (zl_at w t m s (B rr) (zl_c0 ind rr) n)), some (.inl n), none, none, none] [] (S, M, R, T) = some (0, (S, J, R, T)) ∧ zo_ly I J a ∧ zl_mok n w t m ind s J a := by
  have h1 := h.1.2
  have h0 := h.1.1
  have fin := zl_jnv_ok hj k2 hn2.1
  have hrr : rr ≤ 40 := by
    have q := hj.2.2.1
    by_cases g : 0 < n
    · have := q.1 g; omega
    · have := q.2 (by omega); omega
  rw [zk_180_41]
  ((try simp only [zbd_conv]); simp (disch := first | assumption | omega | trivial) only [↓reduceIte, zbd_some, eq_self, Int.reduceEq, Int.reduceLT, Int.reduceLE, and_self, or_true, true_or, or_false, false_or, if_pos, if_neg, if_true, if_false, true_and, and_true, not_true_eq_false, not_false_eq_true, false_and, and_false, Option.bind_some, zq_t, zq_f, zq0, zq1, zw_id, h1, zmo_r17 h, zmo_r18 h, zmo_r19 h, zmo_r20 h, zmo_r21 h, zmo_s7 h, zmo_s8 h, zmo_s9 h, zmo_s10 h, zmo_s11 h, m22, zwr, zu_ne])
  generalize hcol : zl_at w t m s (B rr) (zl_c0 ind rr) n = col at fin ⊢
  refine ⟨_, rfl, ⟨fun x x1 x2 => ?_, fun j j1 j2 => ?_⟩, ?_, ?_, ?_, ?_⟩
  · rw [zu_off (by omega), zu_off (by omega), zu_off (by omega), zu_off (by omega), zu_off (by omega)]; exact ho.1 x x1 x2
  · rw [zu_ne (by omega), zu_ne (by omega), zu_ne (by omega), zu_ne (by omega), zu_ne (by omega)]; exact ho.2 j j1 j2
  · rw [zu_ne (by omega), zu_ne (by omega), zu_ne (by omega), zu_ne (by omega), zu_ne (by omega), m22]
    rw [zu_off (show ¬ a + 7 = a + 11 by omega), zu_off (show ¬ a + 7 = a + 10 by omega), zu_off (show ¬ a + 7 = a + 9 by omega), zu_off (show ¬ a + 7 = a + 8 by omega), zu_row]
    rw [zu_off (show ¬ a + 8 = a + 11 by omega), zu_off (show ¬ a + 8 = a + 10 by omega), zu_off (show ¬ a + 8 = a + 9 by omega), zu_row, zu_off (show ¬ a + 8 = a + 7 by omega)]
    rw [zu_off (show ¬ a + 9 = a + 11 by omega), zu_off (show ¬ a + 9 = a + 10 by omega), zu_row, zu_off (show ¬ a + 9 = a + 8 by omega), zu_off (show ¬ a + 9 = a + 7 by omega)]
    rw [zu_off (show ¬ a + 10 = a + 11 by omega), zu_row, zu_off (show ¬ a + 10 = a + 9 by omega), zu_off (show ¬ a + 10 = a + 8 by omega), zu_off (show ¬ a + 10 = a + 7 by omega)]
    rw [zu_row, zu_off (show ¬ a + 11 = a + 10 by omega), zu_off (show ¬ a + 11 = a + 9 by omega), zu_off (show ¬ a + 11 = a + 8 by omega), zu_off (show ¬ a + 11 = a + 7 by omega)]
    rw [show rr + 1 - 1 = rr by omega]
    exact fin
  · rw [zu_ne (by omega), zu_ne (by omega), zu_ne (by omega), zu_ne (by omega), zu_ne (by omega), m23]
  · rw [zu_ne (by omega), zu_ne (by omega), zu_eq ⟨rfl, rfl⟩]
  · rw [zu_ne (by omega), zu_eq ⟨rfl, rfl⟩]
set_option maxHeartbeats 20000000 in
theorem zy_lays (h : zs_mo S R a) (hr : zr_mo I a) (hl : 0 ≤ l ∧ l < 12) (hn : I (a + 1) (1 + l) = n) (hn2 : 0 ≤ n ∧ n ≤ 40) : ∃ J, zG (d + 5) 180 [.inr (.inr a), .inl l] (S, I, R, T) = some (0, (S, J, R, T)) ∧ zo_ly I J a ∧ zl_mok n (I a 6) (I a 7) (I a 8) (zl_ind n (I a 6) (I a 7) (I a 8) (I a 9) (zt_sg (I (a + 1)) l)) (zt_sg (I (a + 1)) l) J a := by
  have h1 := h.1.2
  have h0 := h.1.1
  obtain ⟨hw, ht, hm, he⟩ := id hr
  obtain ⟨s, hs⟩ : ∃ s, s = zt_sg (I (a + 1)) l := ⟨_, rfl⟩
  have hsg : ∀ i, 0 ≤ i → i < n → I (a + 1) (13 + 40 * l + i) = s i := fun i i1 i2 => by rw [hs, zt_sg_in ⟨i1, by rw [hn]; exact i2⟩]
  obtain ⟨w, hwe⟩ : ∃ w, w = I a 6 := ⟨_, rfl⟩
  obtain ⟨t, hte⟩ : ∃ t, t = I a 7 := ⟨_, rfl⟩
  obtain ⟨m, hme⟩ : ∃ m, m = I a 8 := ⟨_, rfl⟩
  obtain ⟨ind, hind⟩ : ∃ ind, ind = zl_ind n (I a 6) (I a 7) (I a 8) (I a 9) s := ⟨_, rfl⟩
  have hiw : 0 ≤ ind ∧ ind ≤ w / 2 := by
    rw [hind, hwe]
    exact zl_ind_ir hw he.1 (zl_lead_nn ht.1 41 0 0 (by omega))
  rw [← hs, ← hind, ← hwe, ← hte, ← hme]
  rw [← hwe] at hw
  rw [← hte] at ht
  rw [← hme] at hm
  rw [zm_180]
  have key : ∀ (u : Nat) (rr i : Int) (M : zI) (B : Int → Int) (w' : Nat), (n - B rr) * 50 + (n - i) ≤ u → 0 ≤ rr → zo_ly I M a → M a 22 = rr + 1 → M a 23 = ind → zl_jnv n w t m ind s (M (a + 7)) (M (a + 8)) (M (a + 9)) (M (a + 10)) (M (a + 11)) rr B i → 4 * u + 5 ≤ w' → ∃ J, zi_run zt_180 (zG (d + 4)) w' 41 [some (.inr (.inr a)), some (.inl l), some (.inl n), some (.inl (zl_at w t m s (B rr) (zl_c0 ind rr) i)), some (.inl i), none, none, none] [] (S, M, R, T) = some (0, (S, J, R, T)) ∧ zo_ly I J a ∧ zl_mok n w t m ind s J a := by
    intro u
    induction u with
    | zero =>
      intro rr i M B w' k1 k2 ho m22 m23 hj k3
      obtain ⟨w', rfl⟩ : ∃ w'', w' = w'' + 1 := ⟨w' - 1, by omega⟩
      have pr := hj.2.1 rr k2 (Int.le_refl _)
      have pi := hj.2.2.2.2.2.2.2.1
      obtain rfl : i = n := by omega
      exact zy_layEnd h hn2 k2 ho m22 m23 hj
    | succ u ih =>
      intro rr i M B w' k1 k2 ho m22 m23 hj k3
      have pr := hj.2.1 rr k2 (Int.le_refl _)
      have pi := hj.2.2.2.2.2.2.2.1
      by_cases hin : i < n
      · obtain ⟨w', rfl⟩ : ∃ w'', w' = w'' + 1 + 1 + 1 + 1 := ⟨w' - 4, by omega⟩
        have hrr : rr ≤ 39 := by
          have q := hj.2.2.1
          have := q.1 (by omega); omega
        have hc0 : 0 ≤ zl_c0 ind rr ∧ zl_c0 ind rr ≤ 20 := by unfold zl_c0; split <;> omega
        obtain ⟨col, hcol⟩ : ∃ col, col = zl_at w t m s (B rr) (zl_c0 ind rr) i := ⟨_, rfl⟩
        have hcb : 0 ≤ col ∧ col ≤ 340 := by
          have := zl_at_ir (w := w) (t := t) (m := m) (s := s) (b := B rr) ht hc0.1 i pi.1
          rw [hcol]; omega
        have mr : zr_mo M a := zo_ly_mo ho hr
        have m6 : M a 6 = w := by rw [ho.2 6 (by omega) (by omega), hwe]
        have m7 : M a 7 = t := by rw [ho.2 7 (by omega) (by omega), hte]
        have m8 : M a 8 = m := by rw [ho.2 8 (by omega) (by omega), hme]
        have mp : M (a + 1) = I (a + 1) := ho.1 (a + 1) (by omega) (by omega)
        have es : M (a + 1) (13 + 40 * l + i) = s i := by rw [mp]; exact hsg i (by omega) hin
        have hce := zl_ce_ir (w := w) (m := m) (c := s i) (i := i) ht hcb.1
        have em1 := Int.emod_nonneg col (show t ≠ 0 by omega)
        have em2 := Int.emod_lt_of_pos col (show 0 < t by omega)
        have hzm : 0 ≤ zm_ce t (s i) i col ∧ zm_ce t (s i) i col ≤ 8 := by
          unfold zm_ce
          split
          · omega
          · split
            · split <;> omega
            · split <;> omega
        obtain ⟨x6, hx6⟩ : ∃ x6, x6 = if m ≠ 0 ∧ s i = 9 ∧ w < col + zm_ce t (s i) i col then w - col else zm_ce t (s i) i col := ⟨_, rfl⟩
        have hfitx : zl_fit w t m (s i) i col → x6 = zl_ce w t m (s i) i col := fun q => hx6.trans (zm_ce_eff hcb.1 ht.1 q)
        have hx6n : s i ≠ 9 → x6 = zm_ce t (s i) i col := fun q => hx6.trans (if_neg (fun z => q z.2.1))
        have hx6b : -400 ≤ x6 ∧ x6 ≤ 40 := by rw [hx6]; split <;> omega
        have fitiff := zm_fit (w := w) (t := t) (c := s i) (i := i) (col := col) hm.1
        -- a sign is laid
        have lay : ∀ f y0, (f = 0 ∨ f = 1) → y0 = zl_eff w t m (s i) i col → (f = 0 → y0 = 0 ∧ ¬ zl_fit w t m (s i) i col) → (f = 1 → y0 = x6 ∧ zl_fit w t m (s i) i col) → zl_ok1 w t m (s i) i col → ∃ J, zi_run zt_180 (zG (d + 4)) (w' + 1) 177 [some (.inr (.inr a)), some (.inl l), some (.inl n), some (.inl col), some (.inl i), none, some (.inl x6), some (.inl f)] [.inl y0, .inl col, .inl i, .inr (.inr a)] (S, M, R, T) = some (0, (S, J, R, T)) ∧ zo_ly I J a ∧ zl_mok n w t m ind s J a := by
          intro f y0 hf hy f0 f1 hok
          have hyb := zl_eff_ir (w := w) (m := m) (c := s i) (i := i) ht hcb.1
          obtain ⟨o, hob⟩ : ∃ o, o = if zl_fitb w t m (s i) i col then (0 : Int) else 1 := ⟨_, rfl⟩
          have nx := zl_jnv_sign (o := o) hj k2 hin hcol hy hob hok
          obtain ⟨M', hM'⟩ : ∃ M', M' = zi_up (zi_up (zi_up (zi_up M (a + 7) i rr) (a + 8) i col) (a + 9) i y0) (a + 10) i o := ⟨_, rfl⟩
          have c7 : M' (a + 7) = zt_up (M (a + 7)) i rr := by rw [hM', zu_off (by omega), zu_off (by omega), zu_off (by omega), zu_row]
          have c8 : M' (a + 8) = zt_up (M (a + 8)) i col := by rw [hM', zu_off (by omega), zu_off (by omega), zu_row, zu_off (by omega)]
          have c9 : M' (a + 9) = zt_up (M (a + 9)) i y0 := by rw [hM', zu_off (by omega), zu_row, zu_off (by omega), zu_off (by omega)]
          have c10 : M' (a + 10) = zt_up (M (a + 10)) i o := by rw [hM', zu_row, zu_off (by omega), zu_off (by omega), zu_off (by omega)]
          have c11 : M' (a + 11) = M (a + 11) := by rw [hM', zu_off (by omega), zu_off (by omega), zu_off (by omega), zu_off (by omega)]
          have ca : M' a = M a := by rw [hM', zu_off (by omega), zu_off (by omega), zu_off (by omega), zu_off (by omega)]
          rw [← c7, ← c8, ← c9, ← c10, ← c11] at nx
          have run := ih rr (i + 1) M' B w' (by omega) k2 ⟨fun x x1 x2 => by rw [hM', zu_off (by omega), zu_off (by omega), zu_off (by omega), zu_off (by omega)]; exact ho.1 x x1 x2, fun j j1 j2 => by rw [ca]; exact ho.2 j j1 j2⟩ (by rw [ca, m22]) (by rw [ca, m23]) nx (by omega)
          rw [zl_at_succ pi.1, ← hcol, ← hy, hM'] at run
          rw [zk_180_177]
          rcases hf with hf | hf
          · obtain ⟨z1, z2⟩ := f0 hf
            have hb : zl_fitb w t m (s i) i col = false := by
              cases hq : zl_fitb w t m (s i) i col with
              | true => exact absurd (zl_fitb_iff.mp hq) z2
              | false => rfl
            have ho1 : o = 1 := by rw [hob, hb]; rfl
            have sg := zy_laysSign (d := d + 3) (I := M) (T := T) (i := i) (x := col) (y := y0) (v := 1) h (by omega) (by omega) (Or.inr rfl)
            rw [m22, show rr + 1 - 1 = rr by omega, ← ho1] at sg
            rw [ho1] at sg
            rw [ho1] at run
            rw [z1] at sg run
            subst hf
            rw [z1]
            ((try simp only [zbd_conv]); simp (disch := first | assumption | omega | trivial) only [↓reduceIte, zbd_some, eq_self, Int.reduceEq, Int.reduceLT, Int.reduceLE, and_self, or_true, true_or, or_false, false_or, if_pos, if_neg, if_true, if_false, true_and, and_true, not_true_eq_false, not_false_eq_true, false_and, and_false, Option.bind_some, zq_t, zq_f, zq0, zq1, zw_id, h1, sg])
            exact run
          · obtain ⟨z1, z2⟩ := f1 hf
            have hb : zl_fitb w t m (s i) i col = true := zl_fitb_iff.mpr z2
            have ho1 : o = 0 := by rw [hob, hb]; rfl
            have sg := zy_laysSign (d := d + 3) (I := M) (T := T) (i := i) (x := col) (y := y0) (v := 0) h (by omega) (by omega) (Or.inl rfl)
            rw [m22, show rr + 1 - 1 = rr by omega] at sg
            rw [ho1] at run
            rw [z1] at sg run
            subst hf
            rw [z1]
            ((try simp only [zbd_conv]); simp (disch := first | assumption | omega | trivial) only [↓reduceIte, zbd_some, eq_self, Int.reduceEq, Int.reduceLT, Int.reduceLE, and_self, or_true, true_or, or_false, false_or, if_pos, if_neg, if_true, if_false, true_and, and_true, not_true_eq_false, not_false_eq_true, false_and, and_false, Option.bind_some, zq_t, zq_f, zq0, zq1, zw_id, h1, sg])
            exact run
        -- fits it or not
        have mid : ∃ J, zi_run zt_180 (zG (d + 4)) (w' + 1 + 1) 141 [some (.inr (.inr a)), some (.inl l), some (.inl n), some (.inl col), some (.inl i), some (.inl (s i)), some (.inl x6), none] [.inl (zq (zl_fit w t m (s i) i col))] (S, M, R, T) = some (0, (S, J, R, T)) ∧ zo_ly I J a ∧ zl_mok n w t m ind s J a := by
          rw [zk_180_141]
          by_cases q1 : zl_fit w t m (s i) i col
          · have hb : zl_fitb w t m (s i) i col = true := zl_fitb_iff.mpr q1
            rw [zq_t q1]
            ((try simp only [zbd_conv]); simp (disch := first | assumption | omega | trivial) only [↓reduceIte, zbd_some, eq_self, Int.reduceEq, Int.reduceLT, Int.reduceLE, and_self, or_true, true_or, or_false, false_or, if_pos, if_neg, if_true, if_false, true_and, and_true, not_true_eq_false, not_false_eq_true, false_and, and_false, Option.bind_some, zq_t, zq_f, zq0, zq1, zw_id])
            exact lay 1 x6 (Or.inr rfl) (by unfold zl_eff; rw [hb]; exact hfitx q1) (fun z => absurd z (by omega)) (fun _ => ⟨rfl, q1⟩) (Or.inl q1)
          · have hb : zl_fitb w t m (s i) i col = false := by
              cases hq : zl_fitb w t m (s i) i col with
              | true => exact absurd (zl_fitb_iff.mp hq) q1
              | false => rfl
            rw [zq_f q1]
            by_cases q2 : s i = 32 ∨ s i = 9
            · have fl := lay 0 0 (Or.inl rfl) (by unfold zl_eff; rw [hb]; rfl) (fun _ => ⟨rfl, q1⟩) (fun z => absurd z (by omega)) (Or.inr q2)
              rcases q2 with q2 | q2
              · ((try simp only [zbd_conv]); simp (disch := first | assumption | omega | trivial) only [↓reduceIte, zbd_some, eq_self, Int.reduceEq, Int.reduceLT, Int.reduceLE, and_self, or_true, true_or, or_false, false_or, if_pos, if_neg, if_true, if_false, true_and, and_true, not_true_eq_false, not_false_eq_true, false_and, and_false, Option.bind_some, zq_t, zq_f, zq0, zq1, zw_id])
                exact fl
              · ((try simp only [zbd_conv]); simp (disch := first | assumption | omega | trivial) only [↓reduceIte, zbd_some, eq_self, Int.reduceEq, Int.reduceLT, Int.reduceLE, and_self, or_true, true_or, or_false, false_or, if_pos, if_neg, if_true, if_false, true_and, and_true, not_true_eq_false, not_false_eq_true, false_and, and_false, Option.bind_some, zq_t, zq_f, zq0, zq1, zw_id])
                exact fl
            · have hm0 : ¬ m = 0 := fun z => q1 (Or.inl z)
              have hno : ¬ zl_ok1 w t m (s i) i col := fun z => z.elim q1 q2
              obtain ⟨e, z1, z2⟩ := zy_endOfRow (d := d) (I := M) (T := T) (b := B rr) (i := i) (n := n) h mr (by rw [m8]; exact hm0) hl (by rw [mp]; exact hn) hn2 ⟨pr.1, pi.1⟩ pi.2
              rw [m8, mp, ← hs] at z2
              rw [hcol] at hno
              obtain ⟨z3, nx⟩ := zl_jnv_row hj k2 hin hw.1 ht.1 hiw hno z2
              obtain ⟨B', hB'⟩ : ∃ B' : Int → Int, B' = (fun q => if q ≤ rr then B q else e) := ⟨_, rfl⟩
              rw [← hB'] at nx
              have e4 : B' (rr + 1) = e := by rw [hB']; exact if_neg (by omega)
              have b1 : M (a + 11) rr = B rr := hj.2.2.2.1 rr k2 (Int.le_refl _)
              obtain ⟨M', hM'⟩ : ∃ M', M' = zi_up (zi_up M (a + 11) (rr + 1) e) a 22 (rr + 1 + 1) := ⟨_, rfl⟩
              have bg := zy_begins (d := d + 3) (I := M) (T := T) (x := e) h (by omega)
              rw [m22, ← hM'] at bg
              have cx : ∀ x, x ≠ a → x ≠ a + 11 → M' x = M x := fun x x1 x2 => by rw [hM', zu_off x1, zu_off x2]
              have ca : ∀ j, j ≠ 22 → M' a j = M a j := fun j hj => by rw [hM', zu_ne (by omega), zu_ne (by omega)]
              have c11 : M' (a + 11) = zt_up (M (a + 11)) (rr + 1) e := by rw [hM', zu_off (by omega), zu_row]
              have m23' : M' a 23 = ind := by rw [ca 23 (by omega), m23]
              rw [← cx (a + 7) (by omega) (by omega), ← cx (a + 8) (by omega) (by omega), ← cx (a + 9) (by omega) (by omega), ← cx (a + 10) (by omega) (by omega), ← c11] at nx
              have run := ih (rr + 1) e M' B' (w' + 1) (by rw [e4]; omega) (by omega) ⟨fun x x1 x2 => by rw [cx x x1 (by omega)]; exact ho.1 x x1 x2, fun j j1 j2 => by rw [ca j j1]; exact ho.2 j j1 j2⟩ (by rw [hM', zu_eq ⟨rfl, rfl⟩]) m23' nx (by omega)
              have ec : zl_c0 ind (rr + 1) = ind := if_neg (by omega)
              rw [e4, zl_at_self, ec] at run
              have q3 : ¬ s i = 32 := fun z => q2 (Or.inl z)
              have q4 : ¬ s i = 9 := fun z => q2 (Or.inr z)
              ((try simp only [zbd_conv]); simp (disch := first | assumption | omega | trivial) only [↓reduceIte, zbd_some, eq_self, Int.reduceEq, Int.reduceLT, Int.reduceLE, and_self, or_true, true_or, or_false, false_or, if_pos, if_neg, if_true, if_false, true_and, and_true, not_true_eq_false, not_false_eq_true, false_and, and_false, Option.bind_some, zq_t, zq_f, zq0, zq1, zw_id, h1, zmo_r21 h, zmo_s11 h, m22, b1, z1, bg, m23', Int.add_sub_cancel])
              exact run
        have pre : ∃ J, zi_run zt_180 (zG (d + 4)) (w' + 1 + 1 + 1) 100 [some (.inr (.inr a)), some (.inl l), some (.inl n), some (.inl col), some (.inl i), some (.inl (s i)), some (.inl x6), none] [] (S, M, R, T) = some (0, (S, J, R, T)) ∧ zo_ly I J a ∧ zl_mok n w t m ind s J a := by
          rw [zk_180_100]
          by_cases q1 : m = 0
          · rw [zq_t (fitiff.mpr (Or.inl q1))] at mid
            ((try simp only [zbd_conv]); simp (disch := first | assumption | omega | trivial) only [↓reduceIte, zbd_some, eq_self, Int.reduceEq, Int.reduceLT, Int.reduceLE, and_self, or_true, true_or, or_false, false_or, if_pos, if_neg, if_true, if_false, true_and, and_true, not_true_eq_false, not_false_eq_true, false_and, and_false, Option.bind_some, zq_t, zq_f, zq0, zq1, zw_id, h1, m8])
            exact mid
          · by_cases q2 : s i = 9
            · by_cases q3 : col < w
              · rw [zq_t (fitiff.mpr (Or.inr (Or.inl ⟨q2, q3⟩)))] at mid
                ((try simp only [zbd_conv]); simp (disch := first | assumption | omega | trivial) only [↓reduceIte, zbd_some, eq_self, Int.reduceEq, Int.reduceLT, Int.reduceLE, and_self, or_true, true_or, or_false, false_or, if_pos, if_neg, if_true, if_false, true_and, and_true, not_true_eq_false, not_false_eq_true, false_and, and_false, Option.bind_some, zq_t, zq_f, zq0, zq1, zw_id, h1, m8, m6])
                exact mid
              · rw [zq_f (fun z => by rcases fitiff.mp z with z | z | z <;> omega)] at mid
                ((try simp only [zbd_conv]); simp (disch := first | assumption | omega | trivial) only [↓reduceIte, zbd_some, eq_self, Int.reduceEq, Int.reduceLT, Int.reduceLE, and_self, or_true, true_or, or_false, false_or, if_pos, if_neg, if_true, if_false, true_and, and_true, not_true_eq_false, not_false_eq_true, false_and, and_false, Option.bind_some, zq_t, zq_f, zq0, zq1, zw_id, h1, m8, m6])
                exact mid
            · have e6 := hx6n q2
              by_cases q3 : w < col + x6
              · rw [zq_f (fun z => by rcases fitiff.mp z with z | z | z <;> omega)] at mid
                ((try simp only [zbd_conv]); simp (disch := first | assumption | omega | trivial) only [↓reduceIte, zbd_some, eq_self, Int.reduceEq, Int.reduceLT, Int.reduceLE, and_self, or_true, true_or, or_false, false_or, if_pos, if_neg, if_true, if_false, true_and, and_true, not_true_eq_false, not_false_eq_true, false_and, and_false, Option.bind_some, zq_t, zq_f, zq0, zq1, zw_id, h1, m8, m6])
                exact mid
              · rw [zq_t (fitiff.mpr (Or.inr (Or.inr ⟨q2, by omega⟩)))] at mid
                ((try simp only [zbd_conv]); simp (disch := first | assumption | omega | trivial) only [↓reduceIte, zbd_some, eq_self, Int.reduceEq, Int.reduceLT, Int.reduceLE, and_self, or_true, true_or, or_false, false_or, if_pos, if_neg, if_true, if_false, true_and, and_true, not_true_eq_false, not_false_eq_true, false_and, and_false, Option.bind_some, zq_t, zq_f, zq0, zq1, zw_id, h1, m8, m6])
                exact mid
        rw [← hcol, zk_180_41]
        have cc : zG (d + 4) 174 [.inr (.inr a), .inl (s i), .inl i, .inl col] (S, M, R, T) = some (zm_ce t (s i) i col, (S, M, R, T)) := by
          rw [zy_cellsOf h mr (by omega), m7]
        by_cases q1 : m = 0
        · have e6 : x6 = zm_ce t (s i) i col := by rw [hx6]; exact if_neg (fun z => z.1 q1)
          rw [e6] at pre
          ((try simp only [zbd_conv]); simp (disch := first | assumption | omega | trivial) only [↓reduceIte, zbd_some, eq_self, Int.reduceEq, Int.reduceLT, Int.reduceLE, and_self, or_true, true_or, or_false, false_or, if_pos, if_neg, if_true, if_false, true_and, and_true, not_true_eq_false, not_false_eq_true, false_and, and_false, Option.bind_some, zq_t, zq_f, zq0, zq1, zw_id, h1, zy_signOf h, es, cc, m8])
          exact pre
        · by_cases q2 : s i = 9
          · by_cases q3 : w < col + zm_ce t (s i) i col
            · have e6 : x6 = w - col := by rw [hx6]; exact if_pos ⟨q1, q2, q3⟩
              rw [e6] at pre
              ((try simp only [zbd_conv]); simp (disch := first | assumption | omega | trivial) only [↓reduceIte, zbd_some, eq_self, Int.reduceEq, Int.reduceLT, Int.reduceLE, and_self, or_true, true_or, or_false, false_or, if_pos, if_neg, if_true, if_false, true_and, and_true, not_true_eq_false, not_false_eq_true, false_and, and_false, Option.bind_some, zq_t, zq_f, zq0, zq1, zw_id, h1, zy_signOf h, es, cc, m8, m6])
              exact pre
            · have e6 : x6 = zm_ce t (s i) i col := by rw [hx6]; exact if_neg (fun z => q3 z.2.2)
              rw [e6] at pre
              ((try simp only [zbd_conv]); simp (disch := first | assumption | omega | trivial) only [↓reduceIte, zbd_some, eq_self, Int.reduceEq, Int.reduceLT, Int.reduceLE, and_self, or_true, true_or, or_false, false_or, if_pos, if_neg, if_true, if_false, true_and, and_true, not_true_eq_false, not_false_eq_true, false_and, and_false, Option.bind_some, zq_t, zq_f, zq0, zq1, zw_id, h1, zy_signOf h, es, cc, m8, m6])
              exact pre
          · have e6 : x6 = zm_ce t (s i) i col := by rw [hx6]; exact if_neg (fun z => q2 z.2.1)
            rw [e6] at pre
            ((try simp only [zbd_conv]); simp (disch := first | assumption | omega | trivial) only [↓reduceIte, zbd_some, eq_self, Int.reduceEq, Int.reduceLT, Int.reduceLE, and_self, or_true, true_or, or_false, false_or, if_pos, if_neg, if_true, if_false, true_and, and_true, not_true_eq_false, not_false_eq_true, false_and, and_false, Option.bind_some, zq_t, zq_f, zq0, zq1, zw_id, h1, zy_signOf h, es, cc, m8])
            exact pre
      · -- the end: as with nothing left
        obtain rfl : i = n := by omega
        obtain ⟨w', rfl⟩ : ∃ w'', w' = w'' + 1 := ⟨w' - 1, by omega⟩
        exact zy_layEnd h hn2 k2 ho m22 m23 hj
  have start : ∀ M, M = zi_up (zi_up (zi_up (zi_up I a 22 0) a 23 ind) (a + 11) 0 0) a 22 1 → ∃ J, zi_run zt_180 (zG (d + 4)) 19999 41 [some (.inr (.inr a)), some (.inl l), some (.inl n), some (.inl 0), some (.inl 0), none, none, none] [] (S, M, R, T) = some (0, (S, J, R, T)) ∧ zo_ly I J a ∧ zl_mok n w t m ind s J a := by
    intro M hM
    obtain ⟨B0, hB0⟩ : ∃ B0 : Int → Int, ∀ q, B0 q = 0 := ⟨fun _ => 0, fun _ => rfl⟩
    have b0 := hB0 0
    have := key ((n * 50 + n).toNat) 0 0 M B0 19999 (by rw [b0]; omega) (by omega) ⟨fun x x1 x2 => by rw [hM, zu_off (by omega), zu_off (by omega), zu_off (by omega), zu_off (by omega)], fun j j1 j2 => by rw [hM, zu_ne (by omega), zu_ne (by omega), zu_ne (by omega), zu_ne (by omega)]⟩ (by rw [hM, zu_eq ⟨rfl, rfl⟩]; rfl) (by rw [hM, zu_ne (by omega), zu_ne (by omega), zu_eq ⟨rfl, rfl⟩]) ⟨b0, fun q q1 q2 => by rw [hB0 q]; omega, ⟨fun z => by rw [b0]; omega, fun _ => rfl⟩, fun q q1 q2 => by
      obtain rfl : q = 0 := by omega
      rw [b0, hM, zu_ne (by omega), zu_eq ⟨rfl, rfl⟩], fun q q1 q2 => absurd q1 (by omega), fun q q1 q2 => absurd q1 (by omega), fun q q1 q2 => absurd q1 (by omega), by rw [b0]; omega, fun i i1 i2 => absurd i1 (by rw [b0]; omega), fun i i1 i2 => absurd i1 (by rw [b0]; omega)⟩ (by omega)
    rw [b0, zl_at_self] at this
    exact this
  have i22 : zi_up I a 22 0 a 8 = m := by rw [zu_ne (by omega), hme]
  have x22 : zi_up (zi_up I a 22 0) a 23 ind a 22 = 0 := by rw [zu_ne (by omega), zu_eq ⟨rfl, rfl⟩]
  have bg := zy_begins (d := d + 3) (I := zi_up (zi_up I a 22 0) a 23 ind) (T := T) (x := 0) h (by rw [x22]; omega)
  rw [x22] at bg
  by_cases gm : m = 0
  · have hi0 : ind = 0 := by rw [hind]; unfold zl_ind; rw [if_pos (by omega)]
    subst hi0
    ((try simp only [zbd_conv]); simp (disch := first | assumption | omega | trivial) only [↓reduceIte, zbd_some, eq_self, Int.reduceEq, Int.reduceLT, Int.reduceLE, and_self, or_true, true_or, or_false, false_or, if_pos, if_neg, if_true, if_false, true_and, and_true, not_true_eq_false, not_false_eq_true, false_and, and_false, Option.bind_some, zq_t, zq_f, zq0, zq1, zw_id, h1, zy_len h, hn, zwr, i22, bg])
    refine start _ ?_
    rw [show (0 : Int) + 1 = 1 by omega]
  · have hin := zy_indentOf (d := d) (I := zi_up I a 22 0) (T := T) h (zo_ly_mo ⟨fun x x1 x2 => zu_off x1, fun j j1 j2 => zu_ne (by omega)⟩ hr) hl (n := n) (by rw [zu_ne (by omega), hn]) hn2 (by rw [i22]; exact gm)
    have hrow : zi_up I a 22 0 (a + 1) = I (a + 1) := zu_off (by omega)
    rw [hrow, zu_ne (show ¬ (a = a ∧ (6 : Int) = 22) by omega), zu_ne (show ¬ (a = a ∧ (7 : Int) = 22) by omega), zu_ne (show ¬ (a = a ∧ (8 : Int) = 22) by omega), zu_ne (show ¬ (a = a ∧ (9 : Int) = 22) by omega), ← hs, ← hind] at hin
    ((try simp only [zbd_conv]); simp (disch := first | assumption | omega | trivial) only [↓reduceIte, zbd_some, eq_self, Int.reduceEq, Int.reduceLT, Int.reduceLE, and_self, or_true, true_or, or_false, false_or, if_pos, if_neg, if_true, if_false, true_and, and_true, not_true_eq_false, not_false_eq_true, false_and, and_false, Option.bind_some, zq_t, zq_f, zq0, zq1, zw_id, h1, zy_len h, hn, zwr, i22, hin, bg])
    refine start _ ?_
    rw [show (0 : Int) + 1 = 1 by omega]
end ZMm
