/-! the object alone: erase at the beginning of a line, split -/
section ZAa
variable {d : Nat} {S : zS} {I J J0 J1 J2 K R R' F : zI} {T : Int × Nat} {X n v l f g c k x y z r i j p w t m e a b N nd nu o : Int} {P P2 Q Q0 Q2 : Int → Int} {σ : zM}
/-- folds that stay behind a join: each was one -/
theorem zj_old : ∀ (k : Nat) (j : Int), 0 ≤ j → j < (zj_fold F l k).1 → ∃ k' : Int, (0 ≤ k' ∧ k' < k) ∧ (zj_fold F l k).2 1 j = zj_x l (F 1 k') ∧ (zj_fold F l k).2 2 j = zj_x l (F 2 k') ∧ (zj_fold F l k).2 3 j = F 3 k'
  | 0, j, h1, h2 => by
    have := (zj_fold_c (F := F) (l := l) 0).2
    omega
  | k + 1, j, h1, h2 => by
    have e : zj_fold F l (k + 1) = zj_step F l k (zj_fold F l k) := rfl
    rw [e] at h2 ⊢
    by_cases g : zj_x l (F 1 k) < zj_x l (F 2 k) ∧ ¬ zj_cl (zj_fold F l k).2 (zj_fold F l k).1 (zj_x l (F 1 k)) (zj_x l (F 2 k))
    · rw [zj_step_t g] at h2 ⊢
      dsimp only at h2 ⊢
      by_cases gj : j = (zj_fold F l k).1
      · refine ⟨k, by omega, ?_, ?_, ?_⟩
        · unfold zj_app
          rw [zu_ne (by omega), zu_ne (by omega), zu_eq ⟨rfl, gj⟩]
        · unfold zj_app
          rw [zu_ne (by omega), zu_eq ⟨rfl, gj⟩]
        · unfold zj_app
          rw [zu_eq ⟨rfl, gj⟩]
      · obtain ⟨k', k1, k2, k3, k4⟩ := zj_old k j h1 (by omega)
        refine ⟨k', by omega, ?_, ?_, ?_⟩
        · unfold zj_app
          rw [zu_ne (by omega), zu_ne (by omega), zu_ne (by omega), k2]
        · unfold zj_app
          rw [zu_ne (by omega), zu_ne (by omega), zu_ne (by omega), k3]
        · unfold zj_app
          rw [zu_ne (by omega), zu_ne (by omega), zu_ne (by omega), k4]
    · rw [zj_step_f g] at h2 ⊢
      obtain ⟨k', k1, k2⟩ := zj_old k j h1 h2
      exact ⟨k', by omega, k2⟩
/-- a page with the folds that stay -/
noncomputable def zj_mk (Q0 : Int → Int) (p : Int × zI) : Int → Int := fun j => if j = 493 then p.1 else if 494 ≤ j ∧ j < 518 then (if (j - 494) % 3 = 0 then p.2 1 ((j - 494) / 3) else if (j - 494) % 3 = 1 then p.2 2 ((j - 494) / 3) else p.2 3 ((j - 494) / 3)) else Q0 j
theorem zj_mk_row {p : Int × zI} (hp : 0 ≤ p.1 ∧ p.1 ≤ 8) : zj_row Q0 (zj_mk Q0 p) p := by
  refine ⟨if_pos rfl, fun j j1 j2 => ⟨?_, ?_, ?_⟩, fun j hj => ?_⟩
  · unfold zj_mk
    rw [if_neg (by omega), if_pos (by omega), if_pos (by omega)]
    exact zc rfl (by omega)
  · unfold zj_mk
    rw [if_neg (by omega), if_pos (by omega), if_neg (by omega), if_pos (by omega)]
    exact zc rfl (by omega)
  · unfold zj_mk
    rw [if_neg (by omega), if_pos (by omega), if_neg (by omega), if_neg (by omega)]
    exact zc rfl (by omega)
  · unfold zj_mk
    rw [if_neg (by omega), if_neg (by omega)]
theorem zA_joins (h : zA S I R X P w t m e nd nu) (hp : ¬ 0 < P 519) : zA_edr d S I R T X P w t m e 115 [] (fun v => 0 ≤ v) := by
  obtain ⟨hn, hcs, hhis⟩ := id h
  obtain ⟨hc, ⟨hrep, hwf⟩, hset, hlay⟩ := id hn; obtain ⟨f, hf⟩ : ∃ f, R X 6 = f := ⟨_, rfl⟩; rw [hf] at hrep; have hF := zcl_fr hc hf; have hrz := zA_rz hn; have h0 := hwf.1; have lof := zs_fa_lo (zcl_fa6 hc hf)
  obtain ⟨l', hl'⟩ : ∃ l', P 518 = l' := ⟨_, rfl⟩
  obtain ⟨w6, w7, w8⟩ := hwf.2.2.2.2.2
  have p9 : P 519 = 0 := by omega
  rw [hl'] at w6
  have c6 : I f 2 = l' := by rw [hrep.2.2.2.2.2.1, hl']
  have c7' : I f 3 = 0 := by rw [hrep.2.2.2.2.2.2, p9]
  by_cases g0 : l' = 0
  · refine zA_edn (v := -4) ?_ (by omega)
    have cj : zG (d + 9) 124 [.inr (.inr X)] (S, I, R, T) = some (-4, (S, I, R, T)) := by
      rw [zm_124]
      ((try simp only [zbd_conv]); simp (disch := first | assumption | omega | trivial) only [↓reduceIte, zbd_some, eq_self, Int.reduceEq, Int.reduceLT, Int.reduceLE, and_self, or_true, true_or, or_false, false_or, if_pos, if_neg, if_true, if_false, true_and, and_true, not_true_eq_false, not_false_eq_true, false_and, and_false, Option.bind_some, zq_t, zq_f, zq0, zq1, zw_id, zcl_x1 hc, hf, zfr_k hF, zfr_r0 hF, zfr_r1 hF, zfr_lk hF, zfr_fk hF, zcl_c3 hc, (zcl_sc hc).2.1, c6])
    rw [zm_115]
    ((try simp only [zbd_conv]); simp (disch := first | assumption | omega | trivial) only [↓reduceIte, zbd_some, eq_self, Int.reduceEq, Int.reduceLT, Int.reduceLE, and_self, or_true, true_or, or_false, false_or, if_pos, if_neg, if_true, if_false, true_and, and_true, not_true_eq_false, not_false_eq_true, false_and, and_false, Option.bind_some, zq_t, zq_f, zq0, zq1, zw_id, zcl_x1 hc, hf, zfr_k hF, zfr_r0 hF, zfr_r1 hF, zfr_lk hF, zfr_fk hF, zcl_c3 hc, (zcl_sc hc).2.1, c7', cj])
  · obtain ⟨l, hl⟩ : ∃ l, l' - 1 = l := ⟨_, rfl⟩
    obtain ⟨n, hlen⟩ : ∃ n, P (1 + l) = n := ⟨_, rfl⟩
    obtain ⟨o, ho⟩ : ∃ o, P (1 + (l + 1)) = o := ⟨_, rfl⟩
    obtain ⟨M, hm0⟩ : ∃ M, P 0 = M := ⟨_, rfl⟩
    obtain ⟨N, hN⟩ : ∃ N, P 493 = N := ⟨_, rfl⟩
    have wn := hwf.2.1 l (by omega) (by omega)
    have wo := hwf.2.1 (l + 1) (by omega) (by omega)
    have wN := hwf.2.2.1
    rw [hlen] at wn
    rw [ho] at wo
    rw [hm0] at h0 w6
    rw [hN] at wN
    have len0 := fun d => zzc_length (d := d) (T := T) hF hrep hwf (l := l) (by omega)
    have len1 := fun d => zzc_length (d := d) (T := T) hF hrep hwf (l := l + 1) (by omega)
    simp only [hlen, ho] at len0 len1
    by_cases gh : zt_hid P l
    · refine zA_edn (v := -2) ?_ (by omega)
      have cj : zG (d + 9) 124 [.inr (.inr X)] (S, I, R, T) = some (-2, (S, I, R, T)) := by
        rw [zm_124]
        ((try simp only [zbd_conv]); simp (disch := first | assumption | omega | trivial) only [↓reduceIte, zbd_some, eq_self, Int.reduceEq, Int.reduceLT, Int.reduceLE, and_self, or_true, true_or, or_false, false_or, if_pos, if_neg, if_true, if_false, true_and, and_true, not_true_eq_false, not_false_eq_true, false_and, and_false, Option.bind_some, zq_t, zq_f, zq0, zq1, zw_id, zcl_x1 hc, hf, zfr_k hF, zfr_r0 hF, zfr_r1 hF, zfr_lk hF, zfr_fk hF, zcl_c3 hc, (zcl_sc hc).2.1, c6, hl, zzc_hides hF hrep hwf])
      rw [zm_115]
      ((try simp only [zbd_conv]); simp (disch := first | assumption | omega | trivial) only [↓reduceIte, zbd_some, eq_self, Int.reduceEq, Int.reduceLT, Int.reduceLE, and_self, or_true, true_or, or_false, false_or, if_pos, if_neg, if_true, if_false, true_and, and_true, not_true_eq_false, not_false_eq_true, false_and, and_false, Option.bind_some, zq_t, zq_f, zq0, zq1, zw_id, zcl_x1 hc, hf, zfr_k hF, zfr_r0 hF, zfr_r1 hF, zfr_lk hF, zfr_fk hF, zcl_c3 hc, (zcl_sc hc).2.1, c7', cj])
    · by_cases gm : n + o ≤ 40
      · obtain ⟨J1, R', g, nd', e1, hc', hf', hg, r1, hd1, hh, hlast⟩ := zA_remember (d := d + 2) (T := T) hc hf hhis ⟨hrep, hwf⟩ hcs.2
        have hF' := zcl_fr hc' hf'
        have log := zs_fa_lo hg.1
        have ap := zs_fa_ne (zcl_fa6 hc hf) hg.1 (fun q => hg.2 q.symm)
        have rp : zv_rep J1 f P := zv_rep_congr hrep (fun q q1 q2 => r1 q (by omega) (by omega))
        have v2 := rp.2.1
        rw [hm0] at v2
        have ef : f + 1 + 1 = f + 2 := by omega
        have wl := hwf.2.1
        rw [hm0] at wl
        obtain ⟨Jd, s1, s2⟩ := zx_joinWithNext (d := d + 2) (I := J1) (T := T) (zfr_li hF') (m := M) (l := l) (by rw [rp.1, hm0]) (by omega) (fun r r1 r2 => by rw [ef, v2 r r1 r2]; exact wl r r1 r2) (by rw [ef, v2 l (by omega) (by omega), v2 (l + 1) (by omega) (by omega), hlen, ho]; exact gm)
        have jd4 : ∀ q, f + 4 ≤ q → Jd q = J1 q := fun q hq => s2.1 q (by omega)
        have w4 := hwf.2.2.2.1
        have w5 := hwf.2.2.2.2.1
        rw [hN, hm0] at w4
        rw [hN] at w5
        have v5 := rp.2.2.2.2.1
        rw [hN] at v5
        obtain ⟨F, hFF⟩ : ∃ F : zI, F = fun i j => Jd (f + 4 + i) j := ⟨_, rfl⟩
        have F1 : ∀ j, 0 ≤ j → j < N → F 1 j = P (494 + 3 * j) ∧ F 2 j = P (495 + 3 * j) ∧ F 3 j = P (496 + 3 * j) := fun j j1 j2 => by
          have a := v5 j j1 j2
          rw [hFF]
          dsimp only
          rw [jd4 _ (by omega), jd4 _ (by omega), jd4 _ (by omega), show f + 4 + 1 = f + 5 by omega, show f + 4 + 2 = f + 6 by omega, show f + 4 + 3 = f + 7 by omega]
          exact a
        obtain ⟨Jf, t1, t2⟩ := zx_followJoin (d := d + 4) (I := Jd) (T := T) (l := l) (zfr_fo hF') hFF (n := N) (by rw [jd4 _ (by omega), rp.2.2.2.1, hN]) wN (fun j j1 j2 => by
          have a := v5 j j1 j2
          have b := w4 j j1 j2
          rw [jd4 _ (by omega), jd4 _ (by omega), show f + 4 + 1 = f + 5 by omega, show f + 4 + 2 = f + 6 by omega, a.1, a.2.1]
          omega)
        have hFb : ∀ j, 0 ≤ j → j < N → (0 ≤ F 1 j ∧ F 1 j < F 2 j ∧ F 2 j < M) ∧ 0 ≤ F 3 j ∧ F 3 j ≤ 1 := fun j j1 j2 => by
          obtain ⟨a1, a2, a3⟩ := F1 j j1 j2
          rw [a1, a2, a3]; exact w4 j j1 j2
        have hFn : ∀ j k, 0 ≤ j → j < k → k < N → zf_nest (F 1 j) (F 2 j) (F 1 k) (F 2 k) := fun j k j1 j2 j3 => by
          obtain ⟨a1, a2, -⟩ := F1 j j1 (by omega)
          obtain ⟨b1, b2, -⟩ := F1 k (by omega) j3
          rw [a1, a2, b1, b2]; exact w5 j k j1 j2 j3
        have gd := zj_gd_fold (m := M) hFb hFn (l := l) (by omega) N.toNat (by omega)
        rw [show ((N.toNat : Nat) : Int) = N by omega] at gd
        have fc := zj_fold_c (F := F) (l := l) N.toNat
        obtain ⟨Q2, hQ2⟩ : ∃ Q2, Q2 = zt_jn P l n o M := ⟨_, rfl⟩
        obtain ⟨Qz, hQz⟩ : ∃ Qz, Qz = zj_mk Q2 (zj_fold F l N.toNat) := ⟨_, rfl⟩
        have rz : zj_row Q2 Qz (zj_fold F l N.toNat) := by rw [hQz]; exact zj_mk_row (by omega)
        have rp2z := zv_jn rp hwf hm0 hlen ho (by omega) (by omega) hQ2 rz (by omega) s2 t2
        have wp2z : zw_page (zt_up (zt_up Qz 518 l) 519 n) := zw_jn hwf hm0 (by omega) (by omega) hQ2 rz (by omega) gd
        obtain ⟨J2, hJ2⟩ : ∃ J2, J2 = zi_up (zi_up Jf f 2 l) f 3 n := ⟨_, rfl⟩
        rw [← hJ2] at rp2z
        have j2 : ∀ q, (q < f ∨ f + 8 ≤ q) → J2 q = J1 q := fun q q1 => by
          rw [hJ2, zu_off (by omega), zu_off (by omega), ← s2.1 q (by omega)]
          exact t2.1 q (by omega)
        have qh : ¬ zt_hid (zt_up (zt_up Qz 518 l) 519 n) (zt_up (zt_up Qz 518 l) 519 n 518) := by
          rw [zt_mv8]
          rintro ⟨k, ⟨k1, k2⟩, k3, k4, k5⟩
          rw [zt_mv _ (by omega)] at k2
          obtain ⟨z1, z2, -⟩ := rz
          rw [z1] at k2
          obtain ⟨y1, y2, y3⟩ := z2 k k1 k2
          rw [zt_mv _ (by omega), y3] at k3
          rw [zt_mv _ (by omega), y1] at k4
          rw [zt_mv _ (by omega), y2] at k5
          obtain ⟨k', q1, q2, q3, q4⟩ := zj_old N.toNat k k1 k2
          obtain ⟨a1, a2, a3⟩ := F1 k' (by omega) (by omega)
          rw [q4, a3] at k3
          rw [q2, a1] at k4
          rw [q3, a2] at k5
          unfold zj_x at k4 k5
          refine gh ⟨k', ⟨by omega, by omega⟩, k3, ?_, ?_⟩
          · split at k4 <;> omega
          · split at k5 <;> omega
        obtain ⟨J, l1, l2⟩ := zA_layall (d := d + 1) (T := T) hset hc' hf' (by rw [j2 _ (by omega), r1 _ (by omega) (by omega)]) rp2z wp2z
        obtain ⟨Q, fin1, fin2⟩ := zA_fin hset hc' hf' hg r1 hh ⟨hd1, hlast⟩ j2 wp2z qh l2
        refine ⟨0, J, R', ?_, Or.inr ⟨by omega, Q, nd', hd1, fin1, fin2⟩⟩
        have cj : zG (d + 9) 124 [.inr (.inr X)] (S, I, R, T) = some (0, (S, J, R', T)) := by
          rw [zm_124]
          ((try simp only [zbd_conv]); simp (disch := first | assumption | omega | trivial) only [↓reduceIte, zbd_some, eq_self, Int.reduceEq, Int.reduceLT, Int.reduceLE, and_self, or_true, true_or, or_false, false_or, if_pos, if_neg, if_true, if_false, true_and, and_true, not_true_eq_false, not_false_eq_true, false_and, and_false, Option.bind_some, zq_t, zq_f, zq0, zq1, zw_id, zcl_x1 hc, hf, zfr_k hF, zfr_r0 hF, zfr_r1 hF, zfr_lk hF, zfr_fk hF, zcl_c3 hc, (zcl_sc hc).2.1, zcl_c0 hc, zcl_c1 hc, zcl_c2 hc, (zcl_hi hc).2.1, hf', zfr_r0 hF', zfr_r1 hF', c6, hl, zzc_hides hF hrep hwf, len0, len1, e1, s1, t1, zwr, ← hJ2, l1])
        rw [zm_115]
        ((try simp only [zbd_conv]); simp (disch := first | assumption | omega | trivial) only [↓reduceIte, zbd_some, eq_self, Int.reduceEq, Int.reduceLT, Int.reduceLE, and_self, or_true, true_or, or_false, false_or, if_pos, if_neg, if_true, if_false, true_and, and_true, not_true_eq_false, not_false_eq_true, false_and, and_false, Option.bind_some, zq_t, zq_f, zq0, zq1, zw_id, zcl_x1 hc, hf, zfr_k hF, zfr_r0 hF, zfr_r1 hF, zfr_lk hF, zfr_fk hF, zcl_c3 hc, (zcl_sc hc).2.1, c7', cj])
      · refine zA_edn (v := -3) ?_ (by omega)
        have cj : zG (d + 9) 124 [.inr (.inr X)] (S, I, R, T) = some (-3, (S, I, R, T)) := by
          rw [zm_124]
          ((try simp only [zbd_conv]); simp (disch := first | assumption | omega | trivial) only [↓reduceIte, zbd_some, eq_self, Int.reduceEq, Int.reduceLT, Int.reduceLE, and_self, or_true, true_or, or_false, false_or, if_pos, if_neg, if_true, if_false, true_and, and_true, not_true_eq_false, not_false_eq_true, false_and, and_false, Option.bind_some, zq_t, zq_f, zq0, zq1, zw_id, zcl_x1 hc, hf, zfr_k hF, zfr_r0 hF, zfr_r1 hF, zfr_lk hF, zfr_fk hF, zcl_c3 hc, (zcl_sc hc).2.1, c6, hl, zzc_hides hF hrep hwf, len0, len1])
        rw [zm_115]
        ((try simp only [zbd_conv]); simp (disch := first | assumption | omega | trivial) only [↓reduceIte, zbd_some, eq_self, Int.reduceEq, Int.reduceLT, Int.reduceLE, and_self, or_true, true_or, or_false, false_or, if_pos, if_neg, if_true, if_false, true_and, and_true, not_true_eq_false, not_false_eq_true, false_and, and_false, Option.bind_some, zq_t, zq_f, zq0, zq1, zw_id, zcl_x1 hc, hf, zfr_k hF, zfr_r0 hF, zfr_r1 hF, zfr_lk hF, zfr_fk hF, zcl_c3 hc, (zcl_sc hc).2.1, c7', cj])
theorem zA_erase (h : zA S I R X P w t m e nd nu) : zA_edr d S I R T X P w t m e 115 [] (fun v => 0 ≤ v) := by
  by_cases g : 0 < P 519
  · exact zA_erases h g
  · exact zA_joins h g
theorem zA_split (h : zA S I R X P w t m e nd nu) : zA_edr d S I R T X P w t m e 116 [] (fun v => 0 < v) := by
  obtain ⟨hn, hcs, hhis⟩ := id h
  obtain ⟨hc, ⟨hrep, hwf⟩, hset, hlay⟩ := id hn; obtain ⟨f, hf⟩ : ∃ f, R X 6 = f := ⟨_, rfl⟩; rw [hf] at hrep; have hF := zcl_fr hc hf; have hrz := zA_rz hn; have h0 := hwf.1; have lof := zs_fa_lo (zcl_fa6 hc hf)
  obtain ⟨l, hl⟩ : ∃ l, P 518 = l := ⟨_, rfl⟩
  obtain ⟨i, hi⟩ : ∃ i, P 519 = i := ⟨_, rfl⟩
  obtain ⟨n, hlen⟩ : ∃ n, P (1 + l) = n := ⟨_, rfl⟩
  obtain ⟨M, hm0⟩ : ∃ M, P 0 = M := ⟨_, rfl⟩
  obtain ⟨N, hN⟩ : ∃ N, P 493 = N := ⟨_, rfl⟩
  obtain ⟨w6, w7, w8⟩ := hwf.2.2.2.2.2
  have wn := hwf.2.1 _ w6.1 w6.2
  have wN := hwf.2.2.1
  have nhl := hcs.2
  rw [hl] at w6 w8 wn nhl
  rw [hi] at w7 w8
  rw [hlen] at w8 wn
  rw [hm0] at h0 w6
  rw [hN] at wN
  have c6 : I f 2 = l := by rw [hrep.2.2.2.2.2.1, hl]
  have c0 : I (f + 1) 0 = M := by rw [hrep.1, hm0]
  by_cases gb : zt_beh P l
  · refine zA_edn (v := -2) ?_ (by omega)
    rw [zm_116]
    ((try simp only [zbd_conv]); simp (disch := first | assumption | omega | trivial) only [↓reduceIte, zbd_some, eq_self, Int.reduceEq, Int.reduceLT, Int.reduceLE, and_self, or_true, true_or, or_false, false_or, if_pos, if_neg, if_true, if_false, true_and, and_true, not_true_eq_false, not_false_eq_true, false_and, and_false, Option.bind_some, zq_t, zq_f, zq0, zq1, zw_id, zcl_x1 hc, hf, zfr_k hF, zfr_r0 hF, zfr_r1 hF, zfr_lk hF, zfr_fk hF, zcl_c3 hc, (zcl_sc hc).2.1, c6, zzc_shutsBehind hF hrep hwf])
  · by_cases gm : M < 12
    · obtain ⟨J1, R', g, nd', e1, hc', hf', hg, r1, hd1, hh, hlast⟩ := zA_remember (d := d + 3) (T := T) hc hf hhis ⟨hrep, hwf⟩ hcs.2
      have hF' := zcl_fr hc' hf'
      have log := zs_fa_lo hg.1
      have ap := zs_fa_ne (zcl_fa6 hc hf) hg.1 (fun q => hg.2 q.symm)
      have rp : zv_rep J1 f P := zv_rep_congr hrep (fun q q1 q2 => r1 q (by omega) (by omega))
      have c7 : J1 f 3 = i := by rw [rp.2.2.2.2.2.2, hi]
      have v2 := rp.2.1
      rw [hm0] at v2
      have ef : f + 1 + 1 = f + 2 := by omega
      have wl := hwf.2.1
      rw [hm0] at wl
      obtain ⟨Jd, s1, s2⟩ := zx_divide (d := d + 3) (I := J1) (T := T) (zfr_li hF') (m := M) (l := l) (i := i) (by rw [rp.1, hm0]) (by omega) (fun r r1 r2 => by rw [ef, v2 r r1 r2]; exact wl r r1 r2) (by rw [ef, v2 l (by omega) (by omega), hlen]; omega)
      have jd4 : ∀ q, f + 4 ≤ q → Jd q = J1 q := fun q hq => s2.1 q (by omega)
      have w4 := hwf.2.2.2.1
      rw [hN, hm0] at w4
      have v5 := rp.2.2.2.2.1
      rw [hN] at v5
      have fsp := fun d => zx_followSplit (d := d) (I := Jd) (T := T) (zfr_fo hF') (n := N) (l := l) (by rw [jd4 _ (by omega), rp.2.2.2.1, hN]) wN (fun j j1 j2 => by
        have a := v5 j j1 j2
        have b := w4 j j1 j2
        rw [jd4 _ (by omega), jd4 _ (by omega), show f + 4 + 1 = f + 5 by omega, show f + 4 + 2 = f + 6 by omega, a.1, a.2.1]
        omega)
      obtain ⟨J2, hJ2⟩ : ∃ J2, J2 = zi_up (zi_up (zp_fsp Jd (f + 4) l N) f 2 (l + 1)) f 3 0 := ⟨_, rfl⟩
      obtain ⟨P2, hP2⟩ : ∃ P2, P2 = zt_spl P l i n M N := ⟨_, rfl⟩
      have rp2 : zv_rep J2 f P2 := by rw [hJ2]; exact zv_spl rp hwf hm0 hlen hN (by omega) (by omega) wN hP2 s2
      have wp2 : zw_page P2 := zw_spl hwf hm0 hlen hN (by omega) (by omega) wN hP2
      have j2 : ∀ q, (q < f ∨ f + 8 ≤ q) → J2 q = J1 q := fun q q1 => by
        rw [hJ2, zu_off (by omega), zu_off (by omega), ← s2.1 q (by omega)]
        funext j
        rw [zp_fsp_at, if_neg (by omega), if_neg (by omega)]
      obtain ⟨q0, -, -, qN, qf, q8, -⟩ := zq_spl (by omega) (by omega) wN hP2
      have qh : ¬ zt_hid P2 (P2 518) := by
        rw [q8]
        rintro ⟨k, ⟨k1, k2⟩, k3, k4, k5⟩
        rw [qN, hN] at k2
        obtain ⟨a1, a2, a3⟩ := qf k k1 k2
        rw [a3] at k3
        rw [a1] at k4
        rw [a2] at k5
        have k4' : P (494 + 3 * k) ≤ l := by split at k4 <;> omega
        have k5' : l ≤ P (495 + 3 * k) := by split at k5 <;> omega
        by_cases ge : P (494 + 3 * k) = l
        · exact gb ⟨k, ⟨k1, by omega⟩, k3, ge⟩
        · exact nhl ⟨k, ⟨k1, by omega⟩, k3, by omega, k5'⟩
      obtain ⟨J, l1, l2⟩ := zA_layall (d := d + 2) (T := T) hset hc' hf' (by rw [j2 _ (by omega), r1 _ (by omega) (by omega)]) rp2 wp2
      obtain ⟨v, f1, f2⟩ := zc_done_rep l2
      obtain ⟨Q, fin1, fin2⟩ := zA_fin hset hc' hf' hg r1 hh ⟨hd1, hlast⟩ j2 wp2 qh l2
      refine ⟨M + 1, J, R', ?_, Or.inr ⟨by omega, Q, nd', hd1, fin1, fin2⟩⟩
      have cnt : J (f + 1) 0 = M + 1 := by rw [f1.1, zt_up_ne (by omega), q0]
      rw [zm_116]
      ((try simp only [zbd_conv]); simp (disch := first | assumption | omega | trivial) only [↓reduceIte, zbd_some, eq_self, Int.reduceEq, Int.reduceLT, Int.reduceLE, and_self, or_true, true_or, or_false, false_or, if_pos, if_neg, if_true, if_false, true_and, and_true, not_true_eq_false, not_false_eq_true, false_and, and_false, Option.bind_some, zq_t, zq_f, zq0, zq1, zw_id, zcl_x1 hc, hf, zfr_k hF, zfr_r0 hF, zfr_r1 hF, zfr_lk hF, zfr_fk hF, zcl_c3 hc, (zcl_sc hc).2.1, zcl_c0 hc, zcl_c1 hc, zcl_c2 hc, (zcl_hi hc).2.1, hf', zfr_r0 hF', zfr_r1 hF', c6, zzc_shutsBehind hF hrep hwf, c0, e1, c7, s1, fsp, zwr, ← hJ2, l1, cnt])
    · refine zA_edn (v := -3) ?_ (by omega)
      rw [zm_116]
      ((try simp only [zbd_conv]); simp (disch := first | assumption | omega | trivial) only [↓reduceIte, zbd_some, eq_self, Int.reduceEq, Int.reduceLT, Int.reduceLE, and_self, or_true, true_or, or_false, false_or, if_pos, if_neg, if_true, if_false, true_and, and_true, not_true_eq_false, not_false_eq_true, false_and, and_false, Option.bind_some, zq_t, zq_f, zq0, zq1, zw_id, zcl_x1 hc, hf, zfr_k hF, zfr_r0 hF, zfr_r1 hF, zfr_lk hF, zfr_fk hF, zcl_c3 hc, (zcl_sc hc).2.1, c6, zzc_shutsBehind hF hrep hwf, c0])
end ZAa
