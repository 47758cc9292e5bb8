/-! signs of a sheet are pasted -/
section ZPa
variable {d : Nat} {S : zS} {I J J0 J1 J2 K K0 K1 R R' : zI} {T : Int × Nat} {X M n v l f c k x y z r i p w t m e b g len N o u a : Int} {P Q s ce : Int → Int}
theorem zt_insn_0 (hn : P (1 + l) = len) (hi : P 519 = i) : zt_insn P l i 0 len s = P := by
  funext j
  rw [zt_insn_at]
  by_cases a1 : j = 1 + l
  · rw [if_pos a1, a1, hn]; omega
  · rw [if_neg a1]
    by_cases a2 : j = 519
    · rw [if_pos a2, a2, hi]; omega
    · rw [if_neg a2, if_neg (by omega)]
      split
      · congr 1; omega
      · rfl
theorem zy_pscan (hm : zs_mo S R M) (hk : 0 ≤ k ∧ k < 4) (hL : I (M + 14) k = y) (hy : ¬ y = -4) (hz : I (M + 15) k = z) (hz2 : 0 ≤ z ∧ z ≤ 20) (hce : ce = fun j => I (M + 16) (20 * k + j)) (ho : -2147483648 ≤ o ∧ o < 2147483648) (hn : 1 ≤ n ∧ n ≤ 20) : ∀ (u : Nat) (i : Int) (w : Nat), (u : Int) + i = n → 0 ≤ i → u + 200 < w → (∀ j, 0 ≤ j → j < i → (0 ≤ o + j ∧ o + j < z) ∧ zf_sign (ce (o + j))) → ∃ v, zf_scan z ce o n v ∧ (v ≠ 0 → zi_run zt_238 (zG (d + 4)) w 26 [some (.inr (.inr M)), some (.inl k), some (.inl y), some (.inl o), some (.inl n), some (.inl i), none, none] [] (S, I, R, T) = some (v, (S, I, R, T))) ∧ (v = 0 → ∃ w2, 150 < w2 ∧ zi_run zt_238 (zG (d + 4)) w 26 [some (.inr (.inr M)), some (.inl k), some (.inl y), some (.inl o), some (.inl n), some (.inl i), none, none] [] (S, I, R, T) = zi_run zt_238 (zG (d + 4)) w2 26 [some (.inr (.inr M)), some (.inl k), some (.inl y), some (.inl o), some (.inl n), some (.inl n), none, none] [] (S, I, R, T)) := by
  have h1 := zmo_1 hm
  intro u
  induction u with
  | zero =>
    intro i w i1 i2 hw hp
    obtain rfl : i = n := by omega
    exact ⟨0, ⟨i, by omega, hp, Or.inl ⟨rfl, rfl⟩⟩, fun q => absurd rfl q, fun _ => ⟨w, by omega, rfl⟩⟩
  | succ u ih =>
    intro i w i1 i2 hw hp
    obtain ⟨w, rfl⟩ : ∃ w', w = w' + 1 := ⟨w - 1, by omega⟩
    by_cases g1 : 0 ≤ o + i ∧ o + i < z
    · have rc : I (M + 16) (20 * k + (o + i)) = ce (o + i) := by rw [hce]
      by_cases g2 : zf_sign (ce (o + i))
      · obtain ⟨v, v1, v2, v3⟩ := ih (i + 1) w (by omega) (by omega) (by omega) (fun j j1 j2 => by
          by_cases q : j = i
          · rw [q]; exact ⟨g1, g2⟩
          · exact hp j j1 (by omega))
        have st : zi_run zt_238 (zG (d + 4)) (w + 1) 26 [some (.inr (.inr M)), some (.inl k), some (.inl y), some (.inl o), some (.inl n), some (.inl i), none, none] [] (S, I, R, T) = zi_run zt_238 (zG (d + 4)) w 26 [some (.inr (.inr M)), some (.inl k), some (.inl y), some (.inl o), some (.inl n), some (.inl (i + 1)), none, none] [] (S, I, R, T) := by
          rw [zk_238_26]
          ((try simp only [zbd_conv]); simp (disch := first | assumption | omega | trivial) only [↓reduceIte, zbd_some, eq_self, Int.reduceEq, Int.reduceLT, Int.reduceLE, and_self, or_true, true_or, or_false, false_or, if_pos, if_neg, if_true, if_false, true_and, and_true, not_true_eq_false, not_false_eq_true, false_and, and_false, Option.bind_some, zq_t, zq_f, zq0, zq1, zw_id, h1, zmo_r26 hm, zmo_s14 hm, hL, zmo_r27 hm, zmo_s15 hm, hz, zw64_id, zy_in, zmo_r28 hm, zmo_s16 hm, rc, zy_isSign])
        rw [st]
        exact ⟨v, v1, v2, v3⟩
      · refine ⟨-20 - i, ⟨i, by omega, hp, Or.inr (Or.inr ⟨by omega, g1, g2, rfl⟩)⟩, fun _ => ?_, fun q => by omega⟩
        rw [zk_238_26]
        ((try simp only [zbd_conv]); simp (disch := first | assumption | omega | trivial) only [↓reduceIte, zbd_some, eq_self, Int.reduceEq, Int.reduceLT, Int.reduceLE, and_self, or_true, true_or, or_false, false_or, if_pos, if_neg, if_true, if_false, true_and, and_true, not_true_eq_false, not_false_eq_true, false_and, and_false, Option.bind_some, zq_t, zq_f, zq0, zq1, zw_id, h1, zmo_r26 hm, zmo_s14 hm, hL, zmo_r27 hm, zmo_s15 hm, hz, zw64_id, zy_in, zmo_r28 hm, zmo_s16 hm, rc, zy_isSign])
    · refine ⟨-13, ⟨i, by omega, hp, Or.inr (Or.inl ⟨by omega, g1, rfl⟩)⟩, fun _ => ?_, fun q => by omega⟩
      have g1' : ¬ (0 ≤ o + i ∧ o + i ≤ z - 1) := by omega
      rw [zk_238_26]
      ((try simp only [zbd_conv]); simp (disch := first | assumption | omega | trivial) only [↓reduceIte, zbd_some, eq_self, Int.reduceEq, Int.reduceLT, Int.reduceLE, and_self, or_true, true_or, or_false, false_or, if_pos, if_neg, if_true, if_false, true_and, and_true, not_true_eq_false, not_false_eq_true, false_and, and_false, Option.bind_some, zq_t, zq_f, zq0, zq1, zw_id, h1, zmo_r26 hm, zmo_s14 hm, hL, zmo_r27 hm, zmo_s15 hm, hz, zw64_id, zy_in])
theorem zy_ploop (hm : zs_mo S R M) (h6 : ∀ j, 0 ≤ j → j < n → I (M + 16) (20 * k + o + j) = s j) (hk : 0 ≤ k ∧ k < 4) (hob : 0 ≤ o ∧ o + n ≤ 20) (hl0 : P 518 = l) (hi0 : P 519 = i) (hlen : P (1 + l) = len) (hl : 0 ≤ l ∧ l < 12) (hi : 0 ≤ i ∧ i ≤ len) (hn : 1 ≤ n ∧ len + n ≤ 40) (hs : zG (d + 6) 205 [.inr (.inr M)] (S, zt_row I (M + 1) (zt_insn P l i n len s), R, T) = some (0, (S, K, R, T))) (hK8 : K (M + 1) 518 = l) (hKn : K (M + 1) (1 + l) = v) : ∀ (u : Nat) (j : Int) (w : Nat), (u : Int) + j = n → 0 ≤ j → u < w → zi_run zt_238 (zG (d + 6)) w 156 [some (.inr (.inr M)), some (.inl k), none, some (.inl o), some (.inl n), some (.inl j), none, none] [] (S, zt_row I (M + 1) (fun x => if 13 + 40 * l + i ≤ x ∧ x < 13 + 40 * l + i + j then s (x - (13 + 40 * l + i)) else zt_spr P l i n len x), R, T) = some (v, (S, K, R, T)) := by
  have h1 := zmo_1 hm
  intro u
  induction u with
  | zero =>
    intro j w j1 j2 hw
    obtain ⟨w, rfl⟩ : ∃ w', w = w' + 1 := ⟨w - 1, by omega⟩
    obtain rfl : j = n := by omega
    obtain ⟨Q, hQ⟩ : ∃ Q : Int → Int, Q = fun x => if 13 + 40 * l + i ≤ x ∧ x < 13 + 40 * l + i + j then s (x - (13 + 40 * l + i)) else zt_spr P l i j len x := ⟨_, rfl⟩
    have q9 : Q 519 = i := by rw [hQ]; dsimp only; rw [if_neg (by omega), zt_spr_at, if_neg (by omega), if_neg (by omega), hi0]
    have qq : zt_up Q 519 (i + j) = zt_insn P l i j len s := by
      funext x
      rw [zt_up_at, zt_insn_at, hQ]
      dsimp only
      rw [zt_spr_at]
      by_cases a2 : x = 519
      · rw [if_pos a2, if_neg (by omega), if_pos a2]
      · rw [if_neg a2, if_neg a2]
        by_cases a1 : x = 1 + l
        · rw [if_neg (by omega), if_pos a1, if_pos a1]
        · rw [if_neg a1, if_neg a1]
    rw [← hQ, zk_238_156]
    ((try simp only [zbd_conv]); simp (disch := first | assumption | omega | trivial) only [↓reduceIte, zbd_some, eq_self, Int.reduceEq, Int.reduceLT, Int.reduceLE, and_self, or_true, true_or, or_false, false_or, if_pos, if_neg, if_true, if_false, true_and, and_true, not_true_eq_false, not_false_eq_true, false_and, and_false, Option.bind_some, zq_t, zq_f, zq0, zq1, zw_id, h1, zmo_r0 hm, zmo_s1 hm, zt_row_eq, q9, zwr, zt_row_up, qq, hs, hK8, zy_len hm, hKn])
  | succ u ih =>
    intro j w j1 j2 hw
    obtain ⟨w, rfl⟩ : ∃ w', w = w' + 1 := ⟨w - 1, by omega⟩
    obtain ⟨Q, hQ⟩ : ∃ Q : Int → Int, Q = fun x => if 13 + 40 * l + i ≤ x ∧ x < 13 + 40 * l + i + j then s (x - (13 + 40 * l + i)) else zt_spr P l i n len x := ⟨_, rfl⟩
    have q9 : Q 519 = i := by rw [hQ]; dsimp only; rw [if_neg (by omega), zt_spr_at, if_neg (by omega), if_neg (by omega), hi0]
    have q8 : Q 518 = l := by rw [hQ]; dsimp only; rw [if_neg (by omega), zt_spr_at, if_neg (by omega), if_neg (by omega), hl0]
    have rd : zt_row I (M + 1) Q (M + 16) = I (M + 16) := zt_row_off (by omega)
    have sj := h6 j j2 (by omega)
    rw [← hQ, zk_238_156]
    ((try simp only [zbd_conv]); simp (disch := first | assumption | omega | trivial) only [↓reduceIte, zbd_some, eq_self, Int.reduceEq, Int.reduceLT, Int.reduceLE, and_self, or_true, true_or, or_false, false_or, if_pos, if_neg, if_true, if_false, true_and, and_true, not_true_eq_false, not_false_eq_true, false_and, and_false, Option.bind_some, zq_t, zq_f, zq0, zq1, zw_id, h1, zmo_r0 hm, zmo_s1 hm, zmo_r28 hm, zmo_s16 hm, zt_row_eq, q9, q8, rd, sj, zwr, zt_row_up])
    refine zr_mem (congrArg (zt_row I (M + 1)) ?_) (ih (j + 1) w (by omega) (by omega) (by omega))
    funext x
    rw [zt_up_at, hQ]
    dsimp only
    by_cases g1 : x = 13 + 40 * l + i + j
    · rw [if_pos g1, if_pos (by omega)]
      congr 1; omega
    · rw [if_neg g1]
      by_cases g2 : 13 + 40 * l + i ≤ x ∧ x < 13 + 40 * l + i + j
      · rw [if_pos g2, if_pos (by omega)]
      · rw [if_neg g2, if_neg (by omega)]
theorem zx_ploop (hc : zs_cl S R X) (hf : R X 6 = f) (hk : 0 ≤ k ∧ k < 4) (hwf : zw_page P) (hl : P 518 = l) (hi : P 519 = i) (hlen : P (1 + l) = len) (hn : 0 ≤ n ∧ len + n ≤ 40) (hob : 0 ≤ o ∧ o + n ≤ 20) (h6 : ∀ j, 0 ≤ j → j < n → J1 (X + 292 + 2 * k + 1) (o + j) = s j) : ∀ (u : Nat) (j : Int) (w : Nat) (J : zI), (u : Int) + j = n → 0 ≤ j → zv_rep J f (zt_insn P l i j len s) → (∀ q, (q < f ∨ f + 8 ≤ q) → J q = J1 q) → ∃ J2, zi_run zt_136 (zG (d + 6)) (w + u) 99 [some (.inr (.inr X)), none, none, some (.inl o), some (.inl n), some (.inr (.inr (X + 292 + 2 * k))), none, some (.inl l), some (.inl j)] [] (S, J, R, T) = zi_run zt_136 (zG (d + 6)) w 99 [some (.inr (.inr X)), none, none, some (.inl o), some (.inl n), some (.inr (.inr (X + 292 + 2 * k))), none, some (.inl l), some (.inl n)] [] (S, J2, R, T) ∧ zv_rep J2 f (zt_insn P l i n len s) ∧ ∀ q, (q < f ∨ f + 8 ≤ q) → J2 q = J1 q := by
  have hF := zcl_fr hc hf
  have lo := zs_fa_lo (zcl_fa6 hc hf)
  have sh := zcl_sh hc hk
  have sk := sh.2.1
  obtain ⟨w6, w7, w8⟩ := hwf.2.2.2.2.2
  have w0 := hwf.1
  rw [hl] at w6 w8
  rw [hi] at w7 w8
  rw [hlen] at w8
  intro u
  induction u with
  | zero =>
    intro j w J j1 j2 hr ho
    obtain rfl : j = n := by omega
    exact ⟨J, rfl, hr, ho⟩
  | succ u ih =>
    intro j w J j1 j2 hr ho
    obtain ⟨Pj, hPj⟩ : ∃ Pj, Pj = zt_insn P l i j len s := ⟨_, rfl⟩
    rw [← hPj] at hr
    have wj : zw_page Pj := by rw [hPj]; exact zw_insn hwf hl hi hlen (by omega) j2
    have l8 : Pj 518 = l := by rw [hPj, zt_insn_at, if_neg (by omega), if_neg (by omega), if_neg (by omega), if_neg (by omega), hl]
    have l9 : Pj 519 = i + j := by rw [hPj, zt_insn_at, if_neg (by omega), if_pos rfl]
    have ln : Pj (1 + l) = len + j := by rw [hPj, zt_insn_at, if_pos rfl]
    have l0 : Pj 0 = P 0 := by rw [hPj, zt_insn_at, if_neg (by omega), if_neg (by omega), if_neg (by omega), if_neg (by omega)]
    have rdv : J (X + 292 + 2 * k + 1) (o + j) = s j := by rw [ho _ (by omega)]; exact h6 j j2 (by omega)
    have rd := fun d => zx_read (d := d) (I := J) (T := T) (i := o + j) sh
    simp only [zk_pk_in (show 0 ≤ o + j ∧ o + j < 20 by omega), rdv] at rd
    have c7 : J f 3 = i + j := by rw [hr.2.2.2.2.2.2, l9]
    have cl : J (f + 1 + 1) l = len + j := by rw [show f + 1 + 1 = f + 2 by omega, hr.2.1 l w6.1 (by rw [l0]; exact w6.2), ln]
    have ins := fun d => zx_insert (d := d) (I := J) (T := T) (c := s j) (zfr_li hF) (l := l) (by omega) cl (by omega) (i := i + j) (by omega)
    have p3 : zp_ins J (f + 1) l (i + j) (len + j) (s j) f 3 = i + j := by unfold zp_ins; rw [if_neg (by omega), if_neg (by omega), if_neg (by omega), c7]
    obtain ⟨J', hJ'⟩ : ∃ J', J' = zi_up (zp_ins J (f + 1) l (i + j) (len + j) (s j)) f 3 (i + j + 1) := ⟨_, rfl⟩
    have r' : zv_rep J' f (zt_insn P l i (j + 1) len s) := by
      rw [hJ', ← zt_insn_step (P := P) (l := l) (i := i) (n := len) (k := j) (s := s) (by omega) (by omega) (by omega) j2, ← hPj]
      exact zv_ins1 hr wj l8 l9 ln (by omega)
    obtain ⟨J2, q1, q2, q3⟩ := ih (j + 1) w J' (by omega) (by omega) r' (fun q hq => by
      rw [hJ', zu_off (by omega), ← ho q hq]
      funext x
      unfold zp_ins
      rw [if_neg (by omega), if_neg (by omega), if_neg (by omega)])
    refine ⟨J2, ?_, q2, q3⟩
    rw [← q1, show w + (u + 1) = (w + u) + 1 by omega, zk_136_99]
    ((try simp only [zbd_conv]); simp (disch := first | assumption | omega | trivial) only [↓reduceIte, zbd_some, eq_self, Int.reduceEq, Int.reduceLT, Int.reduceLE, and_self, or_true, true_or, or_false, false_or, if_pos, if_neg, if_true, if_false, true_and, and_true, not_true_eq_false, not_false_eq_true, false_and, and_false, Option.bind_some, zq_t, zq_f, zq0, zq1, zw_id, zcl_x1 hc, hf, zfr_k hF, zfr_r0 hF, zfr_r1 hF, zfr_lk hF, zfr_fk hF, zcl_c3 hc, (zcl_sc hc).2.1, sk, rd, c7, ins, p3, zwr, ← hJ'])
end ZPa
