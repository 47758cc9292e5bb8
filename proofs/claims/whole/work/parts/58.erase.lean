/-! signs are erased -/
section ZEr
variable {d : Nat} {S : zS} {I J J1 J2 K K0 K1 R R' : zI} {T : Int × Nat} {X M n v l f c k x y z r i p w t m e b g len : Int} {P Q s : Int → Int}
def zt_rem (P : Int → Int) (l b i n : Int) : Int → Int := fun j => if j = 1 + l then n - (i - b) else if j = 519 then b else if 13 + 40 * l + b ≤ j ∧ j < 13 + 40 * l + b + (n - i) then P (j + (i - b)) else P j
theorem zt_rem_at {j : Int} : zt_rem P l b i n j = if j = 1 + l then n - (i - b) else if j = 519 then b else if 13 + 40 * l + b ≤ j ∧ j < 13 + 40 * l + b + (n - i) then P (j + (i - b)) else P j := rfl
theorem zt_rem_lo {j : Int} (hl : 0 ≤ l ∧ l < 12) (hb : 0 ≤ b ∧ b ≤ i ∧ i ≤ n ∧ n ≤ 40) (hj : (j ≤ 12 ∧ j ≠ 1 + l) ∨ (493 ≤ j ∧ j ≠ 519)) : zt_rem P l b i n j = P j := by
  rw [zt_rem_at, if_neg (by omega), if_neg (by omega), if_neg (by omega)]
theorem zw_rem2 (hw : zw_page P) (hl : P 518 = l) (hlen : P (1 + l) = n) (hb : 0 ≤ b ∧ b ≤ i ∧ i ≤ n) : zw_page (zt_rem P l b i n) := by
  obtain ⟨w1, w2, w3, w4, w5, w6, w7, w8⟩ := hw
  rw [hl] at w6 w8
  have wn := w2 l w6.1 w6.2
  rw [hlen] at w8 wn
  have lo : ∀ j, (j ≤ 12 ∧ j ≠ 1 + l ∨ 493 ≤ j ∧ j ≠ 519) → zt_rem P l b i n j = P j := fun j hj => zt_rem_lo (by omega) (by omega) hj
  have e1 : zt_rem P l b i n (1 + l) = n - (i - b) := by rw [zt_rem_at, if_pos rfl]
  have e2 : zt_rem P l b i n 519 = b := by rw [zt_rem_at, if_neg (by omega), if_pos rfl]
  have e3 : zt_rem P l b i n 518 = l := by rw [lo _ (by omega), hl]
  have e0 : zt_rem P l b i n 0 = P 0 := lo _ (by omega)
  have e4 : zt_rem P l b i n 493 = P 493 := lo _ (by omega)
  refine ⟨by rw [e0]; exact w1, fun l' l1 l2 => ?_, by rw [e4]; exact w3, fun j j1 j2 => ?_, fun j j' j1 j2 j3 => ?_, by rw [e3, e0]; omega, by rw [e2]; omega, by rw [e2, e3, e1]; omega⟩
  · rw [e0] at l2
    by_cases g : l' = l
    · rw [g, e1]; omega
    · rw [lo (1 + l') (by omega)]; exact w2 l' l1 l2
  · rw [e4] at j2
    rw [lo (494 + 3 * j) (by omega), lo (495 + 3 * j) (by omega), lo (496 + 3 * j) (by omega), e0]; exact w4 j j1 j2
  · rw [e4] at j3
    rw [lo (494 + 3 * j) (by omega), lo (495 + 3 * j) (by omega), lo (494 + 3 * j') (by omega), lo (495 + 3 * j') (by omega)]; exact w5 j j' j1 j2 j3
theorem zv_rem1 (h : zv_rep I f P) (hw : zw_page P) (hl : P 518 = l) (hlen : P (1 + l) = n) (hb : 0 ≤ b ∧ b ≤ i ∧ i ≤ n) : zv_rep (zi_up (zp_rem I (f + 1) l b i n) f 3 b) f (zt_rem P l b i n) := by
  obtain ⟨v1, v2, v3, v4, v5, v6, v7⟩ := h
  obtain ⟨w1, w2, w3, w4, w5, w6, w7, w8⟩ := hw
  rw [hl] at w6 w8
  have wn := w2 l w6.1 w6.2
  rw [hlen] at w8 wn
  have lo : ∀ j, (j ≤ 12 ∧ j ≠ 1 + l ∨ 493 ≤ j ∧ j ≠ 519) → zt_rem P l b i n j = P j := fun j hj => zt_rem_lo (by omega) (by omega) hj
  have e1 : zt_rem P l b i n (1 + l) = n - (i - b) := by rw [zt_rem_at, if_pos rfl]
  have e2 : zt_rem P l b i n 519 = b := by rw [zt_rem_at, if_neg (by omega), if_pos rfl]
  have pq : ∀ q j, q ≠ f + 2 → q ≠ f + 3 → zp_rem I (f + 1) l b i n q j = I q j := fun q j q1 q2 => by
    unfold zp_rem
    rw [if_neg (by omega), if_neg (by omega)]
  have p2 : ∀ j, zp_rem I (f + 1) l b i n (f + 2) j = if j = l then n - (i - b) else I (f + 2) j := fun j => by
    unfold zp_rem
    by_cases g : j = l
    · rw [if_neg (by omega), if_pos (by omega), if_pos g]
    · rw [if_neg (by omega), if_neg (by omega), if_neg g]
  have p3 : ∀ j, zp_rem I (f + 1) l b i n (f + 3) j = if l * 40 + b ≤ j ∧ j < l * 40 + b + (n - i) then I (f + 3) (j + (i - b)) else I (f + 3) j := fun j => by
    unfold zp_rem
    by_cases g : l * 40 + b ≤ j ∧ j < l * 40 + b + (n - i)
    · rw [if_pos (by omega), if_pos g]
    · rw [if_neg (by omega), if_neg (by omega), if_neg g]
  refine ⟨?_, fun l' l1 l2 => ?_, fun l' k l1 l2 k1 k2 => ?_, ?_, fun k k1 k2 => ?_, ?_, ?_⟩
  · rw [zu_off (by omega), pq _ _ (by omega) (by omega), v1, lo 0 (by omega)]
  · rw [lo 0 (by omega)] at l2
    rw [zu_off (by omega), p2]
    by_cases g : l' = l
    · rw [if_pos g, g, e1]
    · rw [if_neg g, lo (1 + l') (by omega)]; exact v2 l' l1 l2
  · rw [lo 0 (by omega)] at l2
    rw [zu_off (by omega), p3]
    by_cases g : l' = l
    · subst g
      rw [e1] at k2
      by_cases g2 : b ≤ k
      · rw [if_pos (by omega), zt_rem_at, if_neg (by omega), if_neg (by omega), if_pos (by omega), show l' * 40 + k + (i - b) = l' * 40 + (k + (i - b)) by omega, show 13 + 40 * l' + k + (i - b) = 13 + 40 * l' + (k + (i - b)) by omega]
        exact v3 l' (k + (i - b)) l1 l2 (by omega) (by omega)
      · rw [if_neg (by omega), zt_rem_at, if_neg (by omega), if_neg (by omega), if_neg (by omega)]
        exact v3 l' k l1 l2 k1 (by omega)
    · rw [lo (1 + l') (by omega)] at k2
      have bb := w2 l' l1 l2
      rw [if_neg (by omega), zt_rem_at, if_neg (by omega), if_neg (by omega), if_neg (by omega)]
      exact v3 l' k l1 l2 k1 k2
  · rw [zu_off (by omega), pq _ _ (by omega) (by omega), v4, lo 493 (by omega)]
  · rw [lo 493 (by omega)] at k2
    rw [zu_off (show ¬ f + 5 = f by omega), zu_off (show ¬ f + 6 = f by omega), zu_off (show ¬ f + 7 = f by omega), pq (f + 5) k (by omega) (by omega), pq (f + 6) k (by omega) (by omega), pq (f + 7) k (by omega) (by omega), lo (494 + 3 * k) (by omega), lo (495 + 3 * k) (by omega), lo (496 + 3 * k) (by omega)]
    exact v5 k k1 k2
  · rw [zu_ne (by omega), pq _ _ (by omega) (by omega), v6, lo 518 (by omega)]
  · rw [zu_eq ⟨rfl, rfl⟩, e2]
theorem zy_erloop (hm : zs_mo S R M) (hl : 0 ≤ l ∧ l < 12) (hlen : P (1 + l) = n) (hb : 0 ≤ b ∧ b < i ∧ i ≤ n ∧ n ≤ 40) (hs : zG (d + 6) 205 [.inr (.inr M)] (S, zt_row I (M + 1) (zt_rem P l b i n), R, T) = some (0, (S, K, R, T))) : ∀ (u : Nat) (k : Int) (w' : Nat), (u : Int) + k = n → i ≤ k → u < w' → zi_run zt_217 (zG (d + 6)) w' 46 [some (.inr (.inr M)), some (.inl l), some (.inl i), some (.inl b), some (.inl (13 + 40 * l)), some (.inl k)] [] (S, zt_row I (M + 1) (fun j => if 13 + 40 * l + b ≤ j ∧ j < 13 + 40 * l + b + (k - i) then P (j + (i - b)) else P j), R, T) = some (i - b, (S, K, R, T)) := by
  have h1 := zmo_1 hm
  intro u
  induction u with
  | zero =>
    intro k w' k1 k2 k3
    obtain ⟨w', rfl⟩ : ∃ w'', w' = w'' + 1 := ⟨w' - 1, by omega⟩
    obtain rfl : k = n := by omega
    obtain ⟨Q, hQ⟩ : ∃ Q : Int → Int, Q = fun j => if 13 + 40 * l + b ≤ j ∧ j < 13 + 40 * l + b + (k - i) then P (j + (i - b)) else P j := ⟨_, rfl⟩
    have ql : Q (1 + l) = k := by rw [hQ]; dsimp only; rw [if_neg (by omega), hlen]
    have qq : zt_up (zt_up Q (1 + l) (k - (i - b))) 519 b = zt_rem P l b i k := by
      funext j
      rw [zt_up_at, zt_up_at, zt_rem_at, hQ]
      dsimp only
      by_cases a1 : j = 1 + l
      · rw [if_neg (by omega), if_pos a1, if_pos a1]
      · rw [if_neg a1, if_neg a1]
    rw [← hQ, zk_217_46]
    ((try simp only [zbd_conv]); simp (disch := first | assumption | omega | trivial) only [↓reduceIte, zbd_some, eq_self, Int.reduceEq, Int.reduceLT, Int.reduceLE, and_self, or_true, true_or, or_false, false_or, if_pos, if_neg, if_true, if_false, true_and, and_true, not_true_eq_false, not_false_eq_true, false_and, and_false, Option.bind_some, zq_t, zq_f, zq0, zq1, zw_id, h1, zmo_r0 hm, zmo_s1 hm, zt_row_eq, zy_len hm, ql, zwr, zt_row_up, qq, hs])
  | succ u ih =>
    intro k w' k1 k2 k3
    obtain ⟨w', rfl⟩ : ∃ w'', w' = w'' + 1 := ⟨w' - 1, by omega⟩
    obtain ⟨Q, hQ⟩ : ∃ Q : Int → Int, Q = fun j => if 13 + 40 * l + b ≤ j ∧ j < 13 + 40 * l + b + (k - i) then P (j + (i - b)) else P j := ⟨_, rfl⟩
    have ql : Q (1 + l) = n := by rw [hQ]; dsimp only; rw [if_neg (by omega), hlen]
    have qk : Q (13 + 40 * l + k) = P (13 + 40 * l + k) := by rw [hQ]; dsimp only; rw [if_neg (by omega)]
    rw [← hQ, zk_217_46]
    ((try simp only [zbd_conv]); simp (disch := first | assumption | omega | trivial) only [↓reduceIte, zbd_some, eq_self, Int.reduceEq, Int.reduceLT, Int.reduceLE, and_self, or_true, true_or, or_false, false_or, if_pos, if_neg, if_true, if_false, true_and, and_true, not_true_eq_false, not_false_eq_true, false_and, and_false, Option.bind_some, zq_t, zq_f, zq0, zq1, zw_id, h1, zmo_r0 hm, zmo_s1 hm, zt_row_eq, zy_len hm, ql, qk, zwr, zt_row_up])
    refine zr_mem (congrArg (zt_row I (M + 1)) ?_) (ih (k + 1) w' (by omega) (by omega) (by omega))
    funext j
    rw [zt_up_at, hQ]
    dsimp only
    by_cases g1 : j = 13 + 40 * l + k - i + b
    · rw [if_pos g1, if_pos (by omega)]
      congr 1; omega
    · rw [if_neg g1]
      by_cases g2 : 13 + 40 * l + b ≤ j ∧ j < 13 + 40 * l + b + (k - i)
      · rw [if_pos g2, if_pos (by omega)]
      · rw [if_neg g2, if_neg (by omega)]
theorem zz_erases (h : zR4 S I R X M) (hp : 0 < I (M + 1) 519) : zz_ok (d + 11) S I R T X M 124 221 [] := by
  obtain ⟨hc, hm, hap, hall⟩ := id h
  obtain ⟨⟨hrep, hwf⟩, -, hmo, -, hlay, -⟩ := zR4_facts h
  obtain ⟨f, hf⟩ : ∃ f, R X 6 = f := ⟨_, rfl⟩
  rw [hf] at hrep
  have hF := zcl_fr hc hf
  have fa := zcl_fa6 hc hf
  have lo := zs_fa_lo fa
  obtain ⟨P, hP⟩ : ∃ P, I (M + 1) = P := ⟨_, rfl⟩
  obtain ⟨l, hl⟩ : ∃ l, P 518 = l := ⟨_, rfl⟩
  obtain ⟨i, hi⟩ : ∃ i, P 519 = i := ⟨_, rfl⟩
  obtain ⟨n, hn⟩ : ∃ n, P (1 + l) = n := ⟨_, rfl⟩
  rw [hP] at hrep hwf hp
  rw [hi] at hp
  obtain ⟨w6, w7, w8⟩ := hwf.2.2.2.2.2
  have w0 := hwf.1
  have wn := hwf.2.1 _ w6.1 w6.2
  rw [hl] at w6 w8 wn
  rw [hi] at w7 w8
  rw [hn] at w8 wn
  have c6 : I f 2 = l := by rw [hrep.2.2.2.2.2.1, hl]
  have c7' : I f 3 = i := by rw [hrep.2.2.2.2.2.2, hi]
  have pic : zr_pic I M (X + 135 + 11 + 9 * l) l := hlay l w6.1 (by rw [hP]; exact w6.2)
  have hll := zs_cl_ll hc (show 0 ≤ l ∧ l < 12 by omega)
  have hk4 := hll.2.1
  have ell : ∀ d, zG (d + 1) 78 [.inr (.inr (X + 135)), .inl l] (S, I, R, T) = some (X + 135 + 11 + 9 * l, (S, I, R, T)) := fun d => zx_laidLine (zcl_sc hc) (by omega)
  have st0 : I (X + 135 + 11 + 9 * l + 5) 0 = 1 := by
    rw [pic.2.2.2.1 0 (by omega) (by rw [hP, hn]; omega)]; exact zq_t (Or.inl rfl)
  obtain ⟨y, y1, y2⟩ := zx_stopAhead (d := d + 7) (I := I) (T := T) (i := i) hll (by omega)
  have hy : 0 ≤ y ∧ y < i := by
    rcases y2.1 with q | q
    · omega
    · exact absurd st0 (y2.2 0 (by omega) hp)
  have mx : zG (d + 10) 1001 [.inl 0, .inl y] (S, I, R, T) = some (y, (S, I, R, T)) := by
    have : zG (d + 10) 1001 [.inl 0, .inl y] (S, I, R, T) = some (if 0 < y then y else 0, (S, I, R, T)) := rfl
    rw [this]
    by_cases g : 0 < y
    · rw [if_pos g]
    · rw [if_neg g, show y = 0 by omega]
  obtain ⟨J1, R', g, e1, hc', hm', hf', hg, r1, r2, rp, rse⟩ := zz_rem (d := d + 4) (T := T) h hf
  have hF' := zcl_fr hc' hf'
  have log := zs_fa_lo hg.1
  rw [hP] at rp
  have cl : J1 (f + 1 + 1) l = n := by rw [show f + 1 + 1 = f + 2 by omega, rp.2.1 l w6.1 w6.2, hn]
  have rem := fun d => zx_remove (d := d) (I := J1) (T := T) (zfr_li hF') (l := l) (by omega) cl (by omega) (i := y) (b := i) (by omega) (by omega)
  obtain ⟨J2, hJ2⟩ : ∃ J2, J2 = zi_up (zp_rem J1 (f + 1) l y i n) f 3 y := ⟨_, rfl⟩
  obtain ⟨P2, hP2⟩ : ∃ P2, P2 = zt_rem P l y i n := ⟨_, rfl⟩
  have rp2 : zv_rep J2 f P2 := by rw [hJ2, hP2]; exact zv_rem1 rp hwf hl hn (by omega)
  have wp2 : zw_page P2 := by rw [hP2]; exact zw_rem2 hwf hl hn (by omega)
  have j2 : ∀ q, (q < f ∨ f + 8 ≤ q) → J2 q = J1 q := fun q q1 => by
    rw [hJ2, zu_off (by omega)]
    funext j
    unfold zp_rem
    rw [if_neg (by omega), if_neg (by omega)]
  have lo2 : ∀ j, (j ≤ 12 ∧ j ≠ 1 + l ∨ 493 ≤ j ∧ j ≠ 519) → P2 j = P j := fun j hj => by rw [hP2]; exact zt_rem_lo (by omega) (by omega) hj
  have q8 : P2 518 = l := by rw [lo2 518 (by omega), hl]
  have q0 : P2 0 = P 0 := lo2 0 (by omega)
  obtain ⟨J, l1, l2⟩ := zz_layline (d := d + 4) (T := T) h hf hc' hf' hg r1 j2 rp2 wp2 (by rw [q0, hP]) (fun l' h1 h2 h3 => by
    rw [q0] at h2
    rw [q8] at h3
    rw [hP]
    refine ⟨lo2 _ (by omega), fun x x1 x2 => ?_⟩
    rw [hP2, zt_rem_at, if_neg (by omega), if_neg (by omega), if_neg (by omega)])
  have jq : ∀ q, X + 300 ≤ q → J q = I q := fun q q1 => by rw [zc_done_q l2 fa q1, j2 q (by omega), r1 q (by omega) (by omega)]
  have jM : J M = I M := jq M hap
  have jP : J (M + 1) = P := by rw [jq _ (by omega), hP]
  have dn := (zr_done_ir h).1
  obtain ⟨J3, b1, b2, b3⟩ := zzm_lays (d := d + 4) (T := T) (I := J) (K := J) hm' (by unfold zr_mo at *; rw [jM]; exact hmo) (by rw [jP]; exact hwf) zo_ly_refl (l := l) (by rw [jP]; exact w6)
  rw [jP, jM] at b3
  have j3q : ∀ q, M + 1 ≤ q → (q < M + 7 ∨ M + 11 < q) → J3 q = J q := fun q q1 q2 => b2.1 q (by omega) q2
  have j3P : J3 (M + 1) = P := by rw [j3q _ (by omega) (by omega), jP]
  obtain ⟨y', z1, z2⟩ := zy_stopAhead (d := d + 6) (I := J3) (T := T) (l := l) (i := i) (n := n) hm' (by omega) (by rw [j3P, hn]) wn (by omega)
  rw [j3P] at z2
  unfold zr_pic at pic
  rw [hP, hn] at pic
  rw [hn] at b3
  have hyy : y' = y := (zl_pv_uniq y2 z2 (fun k k1 k2 => zl_stop_both wn.1 pic b3 (by omega))).symm
  rw [hyy, if_neg (by omega)] at z1
  obtain ⟨K1, a1, a2, a3, a4, a5, a6⟩ := zy_edits (d := d + 6) (I := J3) (T := T) hm' (n := I M 4) (by rw [b2.2 4 (by omega) (by omega), jM]) dn
  have k1P : K1 (M + 1) = P := by rw [a2 _ (by omega) (by omega), j3P]
  obtain ⟨K, c1, c2, v', c3⟩ := zz_edit (d := d + 3) (T := T) h hf hc' hm' hf' hg r1 r2 j2 wp2 l2 (K1 := K1) (fun q q1 q2 q3 => by rw [a2 q q1 q2]; exact b2.1 q q1 q3) (fun j h1 h2 h3 h4 => by rw [a3 j h1 h2]; exact b2.2 j h3 h4) a4 a5 (by rw [a6, j3q _ (by omega) (by omega), j3q _ (by omega) (by omega), jq _ (by omega), jq _ (by omega)]) (K0 := zt_row K1 (M + 1) P2) (fun q q1 _ => zt_row_off q1) zt_row_eq
  rw [hP2] at c1
  have lp := zy_erloop (d := d + 3) (T := T) (I := K1) hm' (show 0 ≤ l ∧ l < 12 by omega) hn (b := y) (i := i) (by omega) c1 (n - i).toNat i 19999 (by omega) (by omega) (by omega)
  have e0 : zt_row K1 (M + 1) (fun j => if 13 + 40 * l + y ≤ j ∧ j < 13 + 40 * l + y + (i - i) then P (j + (i - y)) else P j) = K1 := by
    rw [← k1P]
    refine Eq.trans (congrArg (zt_row K1 (M + 1)) ?_) zt_row_self
    funext j
    rw [if_neg (by omega)]
  rw [e0] at lp
  have m6 : J (M + 1) 518 = l := by rw [jP, hl]
  have m7 : J (M + 1) 519 = i := by rw [jP, hi]
  refine ⟨i - y, J, R', K, ?_, ?_, c2⟩
  · rw [zm_124]
    ((try simp only [zbd_conv]); simp (disch := first | assumption | omega | trivial) only [↓reduceIte, zbd_some, eq_self, Int.reduceEq, Int.reduceLT, Int.reduceLE, and_self, or_true, true_or, or_false, false_or, if_pos, if_neg, if_true, if_false, true_and, and_true, not_true_eq_false, not_false_eq_true, false_and, and_false, Option.bind_some, zq_t, zq_f, zq0, zq1, zw_id, zcl_x1 hc, hf, zfr_k hF, zfr_r0 hF, zfr_r1 hF, zfr_lk hF, zfr_fk hF, zcl_c3 hc, (zcl_sc hc).2.1, zcl_c0 hc, zcl_c1 hc, zcl_c2 hc, (zcl_hi hc).2.1, hf', zfr_r0 hF', zfr_r1 hF', c6, c7', ell, hk4, y1, mx, e1, rem, zwr, ← hJ2, l1])
  · have er : zG (d + 10) 217 [.inr (.inr M)] (S, J, R', T) = some (i - y, (S, K, R', T)) := by
      rw [zm_217]
      ((try simp only [zbd_conv]); simp (disch := first | assumption | omega | trivial) only [↓reduceIte, zbd_some, eq_self, Int.reduceEq, Int.reduceLT, Int.reduceLE, and_self, or_true, true_or, or_false, false_or, if_pos, if_neg, if_true, if_false, true_and, and_true, not_true_eq_false, not_false_eq_true, false_and, and_false, Option.bind_some, zq_t, zq_f, zq0, zq1, zw_id, zmo_1 hm', zmo_r0 hm', zmo_s1 hm', m6, m7, b1, z1, a1])
      exact lp
    rw [zm_221]
    ((try simp only [zbd_conv]); simp (disch := first | assumption | omega | trivial) only [↓reduceIte, zbd_some, eq_self, Int.reduceEq, Int.reduceLT, Int.reduceLE, and_self, or_true, true_or, or_false, false_or, if_pos, if_neg, if_true, if_false, true_and, and_true, not_true_eq_false, not_false_eq_true, false_and, and_false, Option.bind_some, zq_t, zq_f, zq0, zq1, zw_id, zmo_1 hm', zmo_r0 hm', zmo_s1 hm', m7, er])
end ZEr
