/-! the object alone: what an edit is remembered by; type, erase of signs -/
section ZA9
variable {d : Nat} {S : zS} {I J J0 J1 J2 K R R' : zI} {T : Int × Nat} {X n v l f g c k x y z r i j p w t m e a b N nd nu : Int} {P P2 Q : Int → Int} {σ : zM}
theorem zA_remember (h : zs_cl S R X) (hf : R X 6 = f) (hA : zA_his I R X nd nu) (hn : zv_rep I f P ∧ zw_page P) (nh : ¬ zt_hid P (P 518)) : ∃ J R' g nd', zG (d + 6) 27 [.inr (.inr (X + 5)), .inr (.inr f)] (S, I, R, T) = some (0, (S, J, R', T)) ∧ zs_cl S R' X ∧ R' X 6 = f ∧ (zs_fa X g ∧ g ≠ f) ∧ (∀ q, q ≠ X + 5 → (q < g ∨ g + 8 ≤ q) → J q = I q) ∧ 1 ≤ nd' ∧ zA_his J R' X nd' 0 ∧ zv_rep J (R' (X + 6) (nd' - 1)) P := by
  obtain ⟨⟨x0, x1⟩, ⟨c0, c1, c2, c3, c4, c5⟩, hta, hse, hhi, hsc, ⟨ims, hims⟩, ⟨shs, hshs⟩, hfr, ⟨fa6, fa7, fas⟩, ⟨ne67, nes, ness⟩⟩ := id h
  obtain ⟨h0, h1, h2, h3⟩ := id hhi
  have a6 : X + 5 + 1 = X + 6 := by omega
  obtain ⟨⟨a1, a2⟩, ⟨a3, a4, a5⟩, a7⟩ := hA
  obtain ⟨n1, n2⟩ := hn
  obtain ⟨I1, hI1⟩ : ∃ I1, I1 = zi_up I (X + 5) 2 0 := ⟨_, rfl⟩
  have i1 : ∀ q, q ≠ X + 5 → I1 q = I q := fun q hq => by rw [hI1, zu_off hq]
  have i51 : I1 (X + 5) 1 = nd := by rw [hI1, zu_ne (by omega), a1]
  have i52 : I1 (X + 5) 2 = 0 := by rw [hI1, zu_eq ⟨rfl, rfl⟩]
  have hf6 := hf
  rw [hf] at fa6
  have lof := zs_fa_lo fa6
  by_cases g16 : nd < 16
  · obtain ⟨J, e1, e2, e3, e4, e5⟩ := zx_remember0 (d := d) (I := I1) (T := T) h hf (by rw [i51]; exact ⟨a3, g16⟩)
    rw [i51] at e2 e4 e5
    have ag := fas nd a3 g16
    have ng := nes nd a3 g16
    rw [hf] at ng
    have log := zs_fa_lo ag
    have new : zv_rep J (R (X + 6) nd) P := e5 _ (zv_rep_congr n1 (fun q q1 q2 => i1 q (by omega))) n2
    refine ⟨J, R, R (X + 6) nd, nd + 1, ?_, h, hf6, ⟨ag, ng.1⟩, fun q q1 q2 => (e2 q q1 q2).trans (i1 q q1), by omega, ⟨⟨e4, by rw [e3 2 (by omega), i52]⟩, by omega, fun k k1 k2 => ?_⟩, by rw [show nd + 1 - 1 = nd by omega]; exact new⟩
    · rw [zm_27]
      ((try simp only [zbd_conv]); simp (disch := first | assumption | omega | trivial) only [↓reduceIte, zbd_some, eq_self, Int.reduceEq, Int.reduceLT, Int.reduceLE, and_self, or_true, true_or, or_false, false_or, if_pos, if_neg, if_true, if_false, true_and, and_true, not_true_eq_false, not_false_eq_true, false_and, and_false, Option.bind_some, zq_t, zq_f, zq0, zq1, zw_id, h1, zwr])
      rw [← hI1]
      ((try simp only [zbd_conv]); simp (disch := first | assumption | omega | trivial) only [↓reduceIte, zbd_some, eq_self, Int.reduceEq, Int.reduceLT, Int.reduceLE, and_self, or_true, true_or, or_false, false_or, if_pos, if_neg, if_true, if_false, true_and, and_true, not_true_eq_false, not_false_eq_true, false_and, and_false, Option.bind_some, zq_t, zq_f, zq0, zq1, zw_id, i51])
      exact e1 1019998
    · by_cases gk : k = nd
      · rw [gk]
        exact ⟨P, new, n2, nh⟩
      · obtain ⟨Q, p1, p2⟩ := a7 k k1 (by omega)
        have ap := zs_fa_ne (fas k k1 (by omega)) ag (ness k nd k1 (by omega) g16)
        have lok := zs_fa_lo (fas k k1 (by omega))
        exact ⟨Q, zv_rep_congr p1 (fun q q1 q2 => (e2 q (by omega) (by omega)).trans (i1 q (by omega))), p2⟩
  · have g16' : nd = 16 := by omega
    have dr := zx_dropOldest (d := d + 4) (I := I1) (T := T) hhi (by rw [i51, g16']) (fun k k1 k2 => by rw [a6]; exact (hfr _ (Or.inl (fas k k1 k2))).2.1)
    obtain ⟨R', hR'⟩ : ∃ R', R' = zh_rot R (X + 5) 15 := ⟨_, rfl⟩
    obtain ⟨I2, hI2⟩ : ∃ I2, I2 = zi_up I1 (X + 5) 1 15 := ⟨_, rfl⟩
    rw [← hR', ← hI2] at dr
    have ro : ∀ q, q ≠ X + 6 → R' q = R q := fun q hq => by
      funext j
      rw [hR', zh_rot_at, if_neg (by omega), if_neg (by omega)]
    have rk : ∀ k, 0 ≤ k → k < 15 → R' (X + 6) k = R (X + 6) (k + 1) := fun k k1 k2 => by rw [hR', zh_rot_at, if_pos ⟨by omega, k1, k2⟩]
    have r15 : R' (X + 6) 15 = R (X + 6) 0 := by rw [hR', zh_rot_at, if_neg (by omega), if_pos ⟨by omega, rfl⟩]
    have rr : ∀ k, 0 ≤ k → k < 16 → ∃ k', 0 ≤ k' ∧ k' < 16 ∧ R' (X + 6) k = R (X + 6) k' := fun k k1 k2 => by
      by_cases gk : k < 15
      · exact ⟨k + 1, by omega, by omega, rk k k1 gk⟩
      · exact ⟨0, by omega, by omega, by rw [show k = 15 by omega]; exact r15⟩
    have rX : ∀ j, R' X j = R X j := fun j => by rw [ro X (by omega)]
    have h' : zs_cl S R' X := by
      refine zs_cl_R h (fun q _ q2 => ro q q2) (fun j _ _ => rX j) ⟨by rw [rX, hf]; exact fa6, by rw [rX]; exact fa7, fun k k1 k2 => ?_⟩ ⟨by rw [rX, rX]; exact ne67, fun k k1 k2 => ?_, fun j k j1 jk k2 => ?_⟩
      · obtain ⟨k', q1, q2, q3⟩ := rr k k1 k2
        rw [q3]; exact fas k' q1 q2
      · obtain ⟨k', q1, q2, q3⟩ := rr k k1 k2
        rw [q3, rX, rX]; exact nes k' q1 q2
      · rw [rk j j1 (by omega)]
        by_cases gk : k < 15
        · rw [rk k (by omega) gk]; exact ness (j + 1) (k + 1) (by omega) (by omega) (by omega)
        · rw [show k = 15 by omega, r15]; exact fun q => ness 0 (j + 1) (by omega) (by omega) (by omega) q.symm
    have i2 : ∀ q, q ≠ X + 5 → I2 q = I q := fun q hq => by rw [hI2, zu_off hq, i1 q hq]
    have i251 : I2 (X + 5) 1 = 15 := by rw [hI2, zu_eq ⟨rfl, rfl⟩]
    have i252 : I2 (X + 5) 2 = 0 := by rw [hI2, zu_ne (by omega), i52]
    obtain ⟨J, e1, e2, e3, e4, e5⟩ := zx_remember0 (d := d) (f := f) (I := I2) (T := T) h' (by rw [rX]; exact hf) (by rw [i251]; omega)
    rw [i251, r15] at e2 e5
    rw [i251] at e4
    have ag := fas 0 (by omega) (by omega)
    have ng := nes 0 (by omega) (by omega)
    rw [hf] at ng
    have log := zs_fa_lo ag
    have new : zv_rep J (R (X + 6) 0) P := e5 _ (zv_rep_congr n1 (fun q q1 q2 => i2 q (by omega))) n2
    refine ⟨J, R', R (X + 6) 0, 16, ?_, h', by rw [rX]; exact hf6, ⟨ag, ng.1⟩, fun q q1 q2 => (e2 q q1 q2).trans (i2 q q1), by omega, ⟨⟨e4, by rw [e3 2 (by omega), i252]⟩, by omega, fun k k1 k2 => ?_⟩, by rw [show (16 : Int) - 1 = 15 by omega, r15]; exact new⟩
    · rw [zm_27]
      ((try simp only [zbd_conv]); simp (disch := first | assumption | omega | trivial) only [↓reduceIte, zbd_some, eq_self, Int.reduceEq, Int.reduceLT, Int.reduceLE, and_self, or_true, true_or, or_false, false_or, if_pos, if_neg, if_true, if_false, true_and, and_true, not_true_eq_false, not_false_eq_true, false_and, and_false, Option.bind_some, zq_t, zq_f, zq0, zq1, zw_id, h1, zwr])
      rw [← hI1]
      ((try simp only [zbd_conv]); simp (disch := first | assumption | omega | trivial) only [↓reduceIte, zbd_some, eq_self, Int.reduceEq, Int.reduceLT, Int.reduceLE, and_self, or_true, true_or, or_false, false_or, if_pos, if_neg, if_true, if_false, true_and, and_true, not_true_eq_false, not_false_eq_true, false_and, and_false, Option.bind_some, zq_t, zq_f, zq0, zq1, zw_id, i51, dr])
      exact e1 1019998
    · unfold zA_slot
      by_cases gk : k = 15
      · rw [gk, r15]
        exact ⟨P, new, n2, nh⟩
      · rw [rk k k1 (by omega)]
        obtain ⟨Q, p1, p2⟩ := a7 (k + 1) (by omega) (by omega)
        have ap := zs_fa_ne (fas (k + 1) (by omega) (by omega)) ag (fun q => ness 0 (k + 1) (by omega) (by omega) (by omega) q.symm)
        have lok := zs_fa_lo (fas (k + 1) (by omega) (by omega))
        exact ⟨Q, zv_rep_congr p1 (fun q q1 q2 => (e2 q (by omega) (by omega)).trans (i2 q (by omega))), p2⟩
/-- what an edit comes to -/
def zA_edr (d : Nat) (S : zS) (I R : zI) (T : Int × Nat) (X : Int) (P : Int → Int) (w t m e : Int) (jc : Nat) (args : List zV) (ok : Int → Prop) : Prop := ∃ v J R', zG (d + 10) jc (.inr (.inr X) :: args) (S, I, R, T) = some (v, (S, J, R', T)) ∧ ((¬ ok v ∧ J = I ∧ R' = R) ∨ (ok v ∧ ∃ P2 nd2, 1 ≤ nd2 ∧ zA S J R' X P2 w t m e nd2 0 ∧ zv_rep J (R' (X + 6) (nd2 - 1)) P))
theorem zA_edn {jc : Nat} {args : List zV} {ok : Int → Prop} (h : zG (d + 10) jc (.inr (.inr X) :: args) (S, I, R, T) = some (v, (S, I, R, T))) (hv : ¬ ok v) : zA_edr d S I R T X P w t m e jc args ok := ⟨v, I, R, h, Or.inl ⟨hv, rfl, rfl⟩⟩
/-- behind an edit of the frame: all is laid -/
theorem zA_fin (hset : zA_set I X w t m e) (hc' : zs_cl S R' X) (hf' : R' X 6 = f) (hg : zs_fa X g ∧ g ≠ f) (r1 : ∀ q, q ≠ X + 5 → (q < g ∨ g + 8 ≤ q) → J1 q = I q) (hh : zA_his J1 R' X nd 0) (hl : 1 ≤ nd ∧ zv_rep J1 (R' (X + 6) (nd - 1)) P) (j2 : ∀ q, (q < f ∨ f + 8 ≤ q) → J2 q = J1 q) (hw2 : zw_page P2) (nh2 : ¬ zt_hid P2 (P2 518)) (hd : zc_done J2 J X f P2 w t m e) : ∃ Q, zA S J R' X Q w t m e nd 0 ∧ zv_rep J (R' (X + 6) (nd - 1)) P := by
  have fa := zcl_fa6 hc' hf'
  have lo := zs_fa_lo fa
  have log := zs_fa_lo hg.1
  have hb := hh.2.1
  have set2 : zA_set J2 X w t m e := by
    unfold zA_set at *
    rw [j2 (X + 4) (by omega), r1 (X + 4) (by omega) (by omega)]
    exact hset
  have his2 : zA_his J2 R' X nd 0 := zA_his_I hh (j2 _ (by omega)) (fun k k1 k2 q q1 q2 => by
    have := zA_fr hc' hf' ⟨k1, k2⟩
    exact j2 q (by omega))
  obtain ⟨v, c, a1, a2, a3, a4⟩ := zA_full hc' hf' hw2 nh2 set2 his2 hd
  refine ⟨_, a3, zv_rep_congr hl.2 (fun q q1 q2 => ?_)⟩
  have := zA_fr hc' hf' (k := nd - 1) (by omega)
  rw [a4 q (by omega) (by omega) (by omega), j2 q (by omega)]
theorem zA_layline (hn : zA_now S I R X P w t m e) (hf : R X 6 = f) (hc' : zs_cl S R' X) (hf' : R' X 6 = f) (hg : zs_fa X g ∧ g ≠ f) (r1 : ∀ q, q ≠ X + 5 → (q < g ∨ g + 8 ≤ q) → J1 q = I q) (j2 : ∀ q, (q < f ∨ f + 8 ≤ q) → J2 q = J1 q) (hr : zv_rep J2 f P2) (hw : zw_page P2) (p0 : P2 0 = P 0) (pl : ∀ l, 0 ≤ l → l < P2 0 → l ≠ P2 518 → P2 (1 + l) = P (1 + l) ∧ ∀ i, 0 ≤ i → i < 40 → P2 (13 + 40 * l + i) = P (13 + 40 * l + i)) : ∃ J, zG (d + 6) 126 [.inr (.inr X)] (S, J2, R', T) = some (0, (S, J, R', T)) ∧ zc_done J2 J X f P2 w t m e := by
  obtain ⟨hc, ⟨hrep, hwf⟩, hset, hlay⟩ := id hn
  have lo := zs_fa_lo (zcl_fa6 hc hf)
  have log := zs_fa_lo hg.1
  have jI : ∀ q, q ≠ X + 5 → (q < g ∨ g + 8 ≤ q) → (q < f ∨ f + 8 ≤ q) → J2 q = I q := fun q q1 q2 q3 => (j2 q q3).trans (r1 q q1 q2)
  have X4 : J2 (X + 4) = I (X + 4) := jI _ (by omega) (by omega) (by omega)
  have w1 := hw.1
  obtain ⟨⟨s1, s2, s3, s4⟩, st⟩ := hset
  obtain ⟨J, l1, l2⟩ := zx_layCaretLine (d := d) (T := T) hc' hf' hr hw (by unfold zr_se; rw [X4, s1, s2, s3, s4]; exact st) (fun l l1 l2 l3 => by
    obtain ⟨a1, a2⟩ := pl l l1 l2 l3
    have b := hlay l l1 (by omega)
    have bn := hwf.2.1 l l1 (by omega)
    rw [X4, s1, s2, s3, s4]
    exact zl_laid_congr (P := P) (zl_laid_mem b (by omega) (fun q q1 q2 => jI q (by omega) (by omega) (by omega))) (by omega) a1 (fun i i1 i2 => a2 i i1 (by omega)))
  rw [X4, s1, s2, s3, s4] at l2
  exact ⟨J, l1, l2⟩
theorem zA_layall (hset : zA_set I X w t m e) (hc' : zs_cl S R' X) (hf' : R' X 6 = f) (X4 : J2 (X + 4) = I (X + 4)) (hr : zv_rep J2 f P2) (hw : zw_page P2) : ∃ J, zG (d + 7) 125 [.inr (.inr X)] (S, J2, R', T) = some (0, (S, J, R', T)) ∧ zc_done J2 J X f P2 w t m e := by
  obtain ⟨⟨s1, s2, s3, s4⟩, st⟩ := hset
  obtain ⟨J, l1, l2⟩ := zx_layAll (d := d) (T := T) hc' hf' hr hw (by unfold zr_se; rw [X4, s1, s2, s3, s4]; exact st)
  rw [X4, s1, s2, s3, s4] at l2
  exact ⟨J, l1, l2⟩
theorem zA_type (h : zA S I R X P w t m e nd nu) (hs : zf_sign c) : zA_edr d S I R T X P w t m e 114 [.inl c] (fun v => 0 < v) := by
  obtain ⟨hn, hcs, hhis⟩ := id h
  obtain ⟨hc, ⟨hrep, hwf⟩, hset, hlay⟩ := id hn; obtain ⟨f, hf⟩ : ∃ f, R X 6 = f := ⟨_, rfl⟩; rw [hf] at hrep; have hF := zcl_fr hc hf; have hrz := zA_rz hn; have h0 := hwf.1; have lof := zs_fa_lo (zcl_fa6 hc hf)
  obtain ⟨l, hl⟩ : ∃ l, P 518 = l := ⟨_, rfl⟩
  obtain ⟨i, hi⟩ : ∃ i, P 519 = i := ⟨_, rfl⟩
  obtain ⟨n, hlen⟩ : ∃ n, P (1 + l) = n := ⟨_, rfl⟩
  obtain ⟨w6, w7, w8⟩ := hwf.2.2.2.2.2
  have wn := hwf.2.1 _ w6.1 w6.2
  rw [hl] at w6 w8 wn
  rw [hi] at w7 w8
  rw [hlen] at w8 wn
  have c6 : I f 2 = l := by rw [hrep.2.2.2.2.2.1, hl]
  by_cases gn : n < 40
  · obtain ⟨J1, R', g, nd', e1, hc', hf', hg, r1, hd1, hh, hlast⟩ := zA_remember (d := d + 3) (T := T) hc hf hhis ⟨hrep, hwf⟩ hcs.2
    have hF' := zcl_fr hc' hf'
    have log := zs_fa_lo hg.1
    have ap := zs_fa_ne (zcl_fa6 hc hf) hg.1 (fun q => hg.2 q.symm)
    have rp : zv_rep J1 f P := zv_rep_congr hrep (fun q q1 q2 => r1 q (by omega) (by omega))
    have c7 : J1 f 3 = i := by rw [rp.2.2.2.2.2.2, hi]
    have cl : J1 (f + 1 + 1) l = n := by rw [show f + 1 + 1 = f + 2 by omega, rp.2.1 l w6.1 w6.2, hlen]
    have p3 : zp_ins J1 (f + 1) l i n c f 3 = i := by unfold zp_ins; rw [if_neg (by omega), if_neg (by omega), if_neg (by omega), c7]
    have ins := fun d => zx_insert (d := d) (I := J1) (T := T) (c := c) (zfr_li hF') (l := l) (by omega) cl (by omega) (i := i) (by omega)
    obtain ⟨J2, hJ2⟩ : ∃ J2, J2 = zi_up (zp_ins J1 (f + 1) l i n c) f 3 (i + 1) := ⟨_, rfl⟩
    obtain ⟨P2, hP2⟩ : ∃ P2, P2 = zt_insn P l i 1 n (fun _ => c) := ⟨_, rfl⟩
    have rp2 : zv_rep J2 f P2 := by rw [hJ2, hP2]; exact zv_ins1 rp hwf hl hi hlen gn
    have wp2 : zw_page P2 := by rw [hP2]; exact zw_insn hwf hl hi hlen (by omega) (by omega)
    have j2 : ∀ q, (q < f ∨ f + 8 ≤ q) → J2 q = J1 q := fun q q1 => by
      rw [hJ2, zu_off (by omega)]
      funext j
      unfold zp_ins
      rw [if_neg (by omega), if_neg (by omega), if_neg (by omega)]
    have q8 : P2 518 = l := by rw [hP2, zt_insn_at, if_neg (by omega), if_neg (by omega), if_neg (by omega), if_neg (by omega), hl]
    have q0 : P2 0 = P 0 := by rw [hP2, zt_insn_at, if_neg (by omega), if_neg (by omega), if_neg (by omega), if_neg (by omega)]
    have qn : P2 (1 + l) = n + 1 := by rw [hP2, zt_insn_at, if_pos rfl]
    have qh : ¬ zt_hid P2 (P2 518) := by
      rw [q8, zt_hid_congr hwf (fun j j1 j2 => by rw [hP2, zt_insn_at, if_neg (by omega), if_neg (by omega), if_neg (by omega), if_neg (by omega)]), ← hl]
      exact hcs.2
    obtain ⟨J, l1, l2⟩ := zA_layline (d := d + 3) (T := T) hn hf hc' hf' hg r1 j2 rp2 wp2 q0 (fun l' h1 h2 h3 => by
      rw [q0] at h2
      rw [q8] at h3
      rw [hP2]
      refine ⟨?_, fun x x1 x2 => ?_⟩
      · rw [zt_insn_at, if_neg (by omega), if_neg (by omega), if_neg (by omega), if_neg (by omega)]
      · rw [zt_insn_at, if_neg (by omega), if_neg (by omega), if_neg (by omega), if_neg (by omega)])
    obtain ⟨v, f1, f2⟩ := zc_done_rep l2
    obtain ⟨Q, fin1, fin2⟩ := zA_fin hset hc' hf' hg r1 hh ⟨hd1, hlast⟩ j2 wp2 qh l2
    refine ⟨n + 1, J, R', ?_, Or.inr ⟨by omega, Q, nd', hd1, fin1, fin2⟩⟩
    have len := fun d => zzc_length (d := d) (I := J) (T := T) hF' f1 f2 (l := l) (by rw [zt_up_ne (by omega), q0]; exact w6)
    simp only [zt_up_ne (show ¬ 1 + l = 519 by omega), qn] at len
    rw [zm_114]
    ((try simp only [zbd_conv]); simp (disch := first | assumption | omega | trivial) only [↓reduceIte, zbd_some, eq_self, Int.reduceEq, Int.reduceLT, Int.reduceLE, and_self, or_true, true_or, or_false, false_or, if_pos, if_neg, if_true, if_false, true_and, and_true, not_true_eq_false, not_false_eq_true, false_and, and_false, Option.bind_some, zq_t, zq_f, zq0, zq1, zw_id, zx_isSign, zcl_x1 hc, hf, zfr_k hF, zfr_r0 hF, zfr_r1 hF, zfr_lk hF, zfr_fk hF, zcl_c3 hc, (zcl_sc hc).2.1, zcl_c0 hc, zcl_c1 hc, zcl_c2 hc, (zcl_hi hc).2.1, hf', zfr_r0 hF', zfr_r1 hF', c6, zzc_length hF hrep hwf, hlen, e1, c7, ins, zwr, p3, ← hJ2, l1, len])
  · refine zA_edn (v := -3) ?_ (by omega)
    rw [zm_114]
    ((try simp only [zbd_conv]); simp (disch := first | assumption | omega | trivial) only [↓reduceIte, zbd_some, eq_self, Int.reduceEq, Int.reduceLT, Int.reduceLE, and_self, or_true, true_or, or_false, false_or, if_pos, if_neg, if_true, if_false, true_and, and_true, not_true_eq_false, not_false_eq_true, false_and, and_false, Option.bind_some, zq_t, zq_f, zq0, zq1, zw_id, zx_isSign, zcl_x1 hc, hf, zfr_k hF, zfr_r0 hF, zfr_r1 hF, zfr_lk hF, zfr_fk hF, zcl_c3 hc, (zcl_sc hc).2.1, c6, zzc_length hF hrep hwf, hlen])
theorem zA_erases (h : zA S I R X P w t m e nd nu) (hp : 0 < P 519) : zA_edr d S I R T X P w t m e 115 [] (fun v => 0 ≤ v) := by
  obtain ⟨hn, hcs, hhis⟩ := id h
  obtain ⟨hc, ⟨hrep, hwf⟩, hset, hlay⟩ := id hn; obtain ⟨f, hf⟩ : ∃ f, R X 6 = f := ⟨_, rfl⟩; rw [hf] at hrep; have hF := zcl_fr hc hf; have hrz := zA_rz hn; have h0 := hwf.1; have lof := zs_fa_lo (zcl_fa6 hc hf)
  obtain ⟨l, hl⟩ : ∃ l, P 518 = l := ⟨_, rfl⟩
  obtain ⟨i, hi⟩ : ∃ i, P 519 = i := ⟨_, rfl⟩
  obtain ⟨n, hlen⟩ : ∃ n, P (1 + l) = n := ⟨_, rfl⟩
  rw [hi] at hp
  obtain ⟨w6, w7, w8⟩ := hwf.2.2.2.2.2
  have wn := hwf.2.1 _ w6.1 w6.2
  rw [hl] at w6 w8 wn
  rw [hi] at w7 w8
  rw [hlen] at w8 wn
  have c6 : I f 2 = l := by rw [hrep.2.2.2.2.2.1, hl]
  have c7' : I f 3 = i := by rw [hrep.2.2.2.2.2.2, hi]
  have hll := zs_cl_ll hc (show 0 ≤ l ∧ l < 12 by omega)
  have hk4 := hll.2.1
  have ell : ∀ d, zG (d + 1) 77 [.inr (.inr (X + 135)), .inl l] (S, I, R, T) = some (X + 135 + 11 + 9 * l, (S, I, R, T)) := fun d => zx_laidLine (zcl_sc hc) (by omega)
  have st0 := (zA_ends hn w6).1
  obtain ⟨y, y1, y2⟩ := zx_stopAhead (d := d + 6) (I := I) (T := T) (i := i) hll (by omega)
  have hy : 0 ≤ y ∧ y < i := by
    rcases y2.1 with q | q
    · omega
    · exact absurd st0 (y2.2 0 (by omega) hp)
  have mx : zG (d + 9) 1001 [.inl 0, .inl y] (S, I, R, T) = some (y, (S, I, R, T)) := by
    have : zG (d + 9) 1001 [.inl 0, .inl y] (S, I, R, T) = some (if 0 < y then y else 0, (S, I, R, T)) := rfl
    rw [this]
    by_cases g : 0 < y
    · rw [if_pos g]
    · rw [if_neg g, show y = 0 by omega]
  obtain ⟨J1, R', g, nd', e1, hc', hf', hg, r1, hd1, hh, hlast⟩ := zA_remember (d := d + 3) (T := T) hc hf hhis ⟨hrep, hwf⟩ hcs.2
  have hF' := zcl_fr hc' hf'
  have log := zs_fa_lo hg.1
  have ap := zs_fa_ne (zcl_fa6 hc hf) hg.1 (fun q => hg.2 q.symm)
  have rp : zv_rep J1 f P := zv_rep_congr hrep (fun q q1 q2 => r1 q (by omega) (by omega))
  have cl : J1 (f + 1 + 1) l = n := by rw [show f + 1 + 1 = f + 2 by omega, rp.2.1 l w6.1 w6.2, hlen]
  have rem := fun d => zx_remove (d := d) (I := J1) (T := T) (zfr_li hF') (l := l) (by omega) cl (by omega) (i := y) (b := i) (by omega) (by omega)
  obtain ⟨J2, hJ2⟩ : ∃ J2, J2 = zi_up (zp_rem J1 (f + 1) l y i n) f 3 y := ⟨_, rfl⟩
  obtain ⟨P2, hP2⟩ : ∃ P2, P2 = zt_rem P l y i n := ⟨_, rfl⟩
  have rp2 : zv_rep J2 f P2 := by rw [hJ2, hP2]; exact zv_rem1 rp hwf hl hlen (by omega)
  have wp2 : zw_page P2 := by rw [hP2]; exact zw_rem2 hwf hl hlen (by omega)
  have j2 : ∀ q, (q < f ∨ f + 8 ≤ q) → J2 q = J1 q := fun q q1 => by
    rw [hJ2, zu_off (by omega)]
    funext j
    unfold zp_rem
    rw [if_neg (by omega), if_neg (by omega)]
  have lo2 : ∀ j, (j ≤ 12 ∧ j ≠ 1 + l ∨ 493 ≤ j ∧ j ≠ 519) → P2 j = P j := fun j hj => by rw [hP2]; exact zt_rem_lo (by omega) (by omega) hj
  have q8 : P2 518 = l := by rw [lo2 518 (by omega), hl]
  have q0 : P2 0 = P 0 := lo2 0 (by omega)
  have qh : ¬ zt_hid P2 (P2 518) := by
    rw [q8, zt_hid_congr hwf (fun j j1 j2 => lo2 j (by omega)), ← hl]
    exact hcs.2
  obtain ⟨J, l1, l2⟩ := zA_layline (d := d + 3) (T := T) hn hf hc' hf' hg r1 j2 rp2 wp2 q0 (fun l' h1 h2 h3 => by
    rw [q0] at h2
    rw [q8] at h3
    refine ⟨lo2 _ (by omega), fun x x1 x2 => ?_⟩
    rw [hP2, zt_rem_at, if_neg (by omega), if_neg (by omega), if_neg (by omega)])
  obtain ⟨Q, fin1, fin2⟩ := zA_fin hset hc' hf' hg r1 hh ⟨hd1, hlast⟩ j2 wp2 qh l2
  refine ⟨i - y, J, R', ?_, Or.inr ⟨by omega, Q, nd', hd1, fin1, fin2⟩⟩
  rw [zm_115]
  ((try simp only [zbd_conv]); simp (disch := first | assumption | omega | trivial) only [↓reduceIte, zbd_some, eq_self, Int.reduceEq, Int.reduceLT, Int.reduceLE, and_self, or_true, true_or, or_false, false_or, if_pos, if_neg, if_true, if_false, true_and, and_true, not_true_eq_false, not_false_eq_true, false_and, and_false, Option.bind_some, zq_t, zq_f, zq0, zq1, zw_id, zcl_x1 hc, hf, zfr_k hF, zfr_r0 hF, zfr_r1 hF, zfr_lk hF, zfr_fk hF, zcl_c3 hc, (zcl_sc hc).2.1, zcl_c0 hc, zcl_c1 hc, zcl_c2 hc, (zcl_hi hc).2.1, hf', zfr_r0 hF', zfr_r1 hF', c6, c7', ell, hk4, y1, mx, e1, rem, zwr, ← hJ2, l1])
end ZA9
