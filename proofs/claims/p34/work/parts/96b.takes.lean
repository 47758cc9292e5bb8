/-! the law: takes -/
section ZAd
variable {d : Nat} {S : zS} {I J J0 J1 J2 K R R' F : zI} {T : Int × Nat} {X n v l f g c k x y z r i j p w t m e a b N nd nu o u : Int} {P P2 Q Q0 Q2 : Int → Int} {σ : zM}
/-- the caret is at its goal -/
def zA_gl (I : zI) (X : Int) (P : Int → Int) : Prop := I X 8 = I (X + 135 + 11 + 9 * P 518 + 2) (P 519)
theorem zt_mv_mv : zt_up (zt_up (zt_up (zt_up P 518 l) 519 p) 518 (P 518)) 519 (P 519) = P := by
  funext j
  by_cases g : j = 519
  · rw [zt_up_eq g, g]
  · rw [zt_up_ne g]
    by_cases g2 : j = 518
    · rw [zt_up_eq g2, g2]
    · rw [zt_up_ne g2, zt_up_ne g, zt_up_ne g2]
/-- what moves of the caret leave -/
theorem zA_wentX (h : zA_now S I R X P w t m e) (hw : zA_went I J R X v p) : (∀ q, X + 135 ≤ q → q < X + 255 → J q = I q) ∧ J X 8 = I (X + 135 + 11 + 9 * v + 2) p := by
  obtain ⟨g1, g2, g3⟩ := zA_went_I hw
  have lo := zs_fa_lo (zcl_fa6 h.1 rfl)
  exact ⟨fun q q1 q2 => g1 q (by omega) (by omega), g3⟩
theorem zT_step (h : zA S I R X P w t m e nd nu) (hg : zA_gl I X P) : ∃ y J, zG (d + 10) 111 [.inr (.inr X), .inl 1] (S, I, R, T) = some (y, (S, J, R, T)) ∧ ((y < 0 ∧ J = I) ∨ (0 ≤ y ∧ ∃ J2, zG (d + 10) 111 [.inr (.inr X), .inl 0] (S, J, R, T) = some (P 519, (S, J2, R, T)) ∧ zA S J2 R X P w t m e nd nu ∧ zA_gl J2 X P)) := by
  have hn := h.1
  obtain ⟨⟨c0, hcs⟩, nh⟩ := h.2.1
  have ca := zA_car hn
  have st := (zA_stop hn hcs).1
  have h0 := (zA_pg hn).1
  have hnl := zA_len hn ca.1
  obtain ⟨y, J, e1, e2, -, e3⟩ := zA_step (d := d) (T := T) h (Or.inr rfl)
  have e3 := e3 rfl
  refine ⟨y, J, e1, ?_⟩
  rcases e2 with ⟨e2, e4⟩ | ⟨v, q1, q2, q3, q4, q5⟩
  · exact Or.inl ⟨by omega, e4⟩
  · refine Or.inr ⟨q2.1, ?_⟩
    have key : ∀ v', zA_went I J R X v' y → (0 ≤ v' ∧ v' < P 0) → (0 ≤ y ∧ y ≤ P (1 + v')) → I (X + 135 + 11 + 9 * v' + 5) y = 1 → ¬ zt_hid P v' → ((v' = P 518 ∧ P 519 < P (1 + P 518) ∧ zl_nx (P 519 + 1) (P (1 + P 518)) (fun j => I (X + 135 + 11 + 9 * P 518 + 5) j = 1) y) ∨ ((P 518 < v' ∧ (∀ k, P 518 < k → k < v' → zt_hid P k)) ∧ y = 0 ∧ P 519 = P (1 + P 518))) → ∃ J2, zG (d + 10) 111 [.inr (.inr X), .inl 0] (S, J, R, T) = some (P 519, (S, J2, R, T)) ∧ zA S J2 R X P w t m e nd nu ∧ zA_gl J2 X P := by
      intro v' z5 z1 z2 z3 z4 z6
      have h1 := zA_went_A h z1 z2 z3 z4 z5
      obtain ⟨jq, j8⟩ := zA_wentX hn z5
      obtain ⟨y2, J2, a1, a2, a3, -⟩ := zA_step (d := d) (T := T) h1 (Or.inl rfl)
      have a3 := a3 rfl
      rw [zt_mv8, zt_mv9] at a3
      have jst : ∀ l, 0 ≤ l → l < P 0 → J (X + 135 + 11 + 9 * l + 5) = I (X + 135 + 11 + 9 * l + 5) := fun l l1 l2 => jq _ (by omega) (by omega)
      have jco : ∀ l, 0 ≤ l → l < P 0 → J (X + 135 + 11 + 9 * l + 2) = I (X + 135 + 11 + 9 * l + 2) := fun l l1 l2 => jq _ (by omega) (by omega)
      rw [jst v' z1.1 z1.2] at a3
      have hidc : ∀ k, zt_hid (zt_up (zt_up P 518 v') 519 y) k ↔ zt_hid P k := fun k => zt_hid_congr (zA_pg hn) (fun j j1 j2 => zt_mv j j2)
      have back : y2 = P 519 → zA_went J J2 R X (P 518) y2 → ∃ J2, zG (d + 10) 111 [.inr (.inr X), .inl 0] (S, J, R, T) = some (P 519, (S, J2, R, T)) ∧ zA S J2 R X P w t m e nd nu ∧ zA_gl J2 X P := by
        intro b1 b2
        rw [b1] at a1 b2
        have h2 := zA_went_A h1 (v := P 518) (p := P 519) (by rw [zt_mv 0 (by omega)]; exact ca.1) (by rw [zt_mv _ (by omega)]; exact ca.2) (by rw [jst _ ca.1.1 ca.1.2]; exact st) (by rw [hidc]; exact nh) b2
        rw [zt_mv_mv] at h2
        obtain ⟨kq, k8⟩ := zA_wentX h1.1 b2
        refine ⟨J2, a1, h2, ?_⟩
        unfold zA_gl
        rw [k8, kq (X + 135 + 11 + 9 * P 518 + 2) (by omega) (by omega)]
      rcases z6 with ⟨g1, g2, g3⟩ | ⟨⟨g1, g2⟩, g3, g4⟩
      · subst g1
        rcases a3 with ⟨b1, b2, b3⟩ | ⟨b1, -⟩
        · refine back ?_ b3
          rcases b1.1 with ⟨d1, d2, d3⟩ | d1
          · rcases Int.lt_trichotomy y2 (P 519) with z | z | z
            · exact absurd st (b1.2 (P 519) z (by have := g3.1; omega))
            · exact z
            · exact absurd d3 (g3.2.2.2 y2 (by omega) d2)
          · omega
        · exact absurd st (b1 (P 519) ca.2.1 (by have := g3.1; omega))
      · rcases a3 with ⟨b1, b2, b3⟩ | ⟨-, b2⟩
        · exfalso
          rcases b1.1 with ⟨d1, d2, d3⟩ | d1 <;> omega
        · rcases b2 with ⟨b2, b3⟩ | ⟨v2, b3, b4, b5, b6, b7⟩
          · exact absurd ((hidc _).mp (b3 (P 518) ca.1.1 g1)) nh
          · rw [hidc] at b4
            have hv2 : v2 = P 518 := by
              rcases Int.lt_trichotomy v2 (P 518) with z | z | z
              · exact absurd ((hidc _).mp (b5 (P 518) z g1)) nh
              · exact z
              · exact absurd (g2 v2 z b3.2) b4
            rw [hv2] at b6 b7
            rw [zt_mv _ (by omega)] at b6
            exact back (by omega) b7
    rcases e3 with ⟨f1, f2, f3⟩ | ⟨f1, f2⟩
    · have hb := f2.2.1
      have hs : I (X + 135 + 11 + 9 * P 518 + 5) y = 1 := by
        rcases f2.2.2.1 with z | z
        · rw [z]; exact (zA_ends hn ca.1).2
        · exact z
      exact key (P 518) f3 ca.1 ⟨by omega, hb⟩ hs nh (Or.inl ⟨rfl, f1, f2⟩)
    · rcases f2 with f2 | ⟨v2, f2, f3, f4, f5, f6⟩
      · omega
      · have hnv := zA_len hn (l := v2) (by omega)
        refine key v2 f6 (by omega) (by omega) ?_ f3 (Or.inr ⟨⟨f2.1, f4⟩, f5, f1⟩)
        rw [f5]
        exact (zA_ends hn (l := v2) (by omega)).1
/-- rows of the screen are as they were when the caret alone is elsewhere -/
theorem zA_Bmv (h : zA_now S I R X P w t m e) (hq : ∀ q, X + 135 ≤ q → q < X + 255 → J q = I q) (hv : 0 ≤ v ∧ v ≤ P 0) : zA_B J X (zt_up (zt_up P 518 l) 519 p) v = zA_B I X P v := by
  have h0 := (zA_pg h).1
  unfold zA_B
  refine zk_sm_congr (fun k k1 k2 => ?_)
  have hidc : zt_hid (zt_up (zt_up P 518 l) 519 p) k ↔ zt_hid P k := zt_hid_congr (zA_pg h) (fun j j1 j2 => zt_mv j j2)
  by_cases g : zt_hid P k
  · rw [zt_vis_t g, zt_vis_t (hidc.mpr g)]
  · rw [zt_vis_f g, zt_vis_f (fun z => g (hidc.mp z))]
    show J (X + 135 + 11 + 9 * k) 1 = I (X + 135 + 11 + 9 * k) 1
    rw [hq _ (by omega) (by omega)]
theorem zT_tail (h : zA S I R X P w t m e nd nu) (hg : zA_gl I X P) {cr N : Int} (hcr : cr = zA_B I X P (P 518) + I (X + 135 + 11 + 9 * P 518 + 1) (P 519)) (hN : N = zA_B I X P (P 0)) : (0 ≤ cr ∧ cr < N ∧ N ≤ 492) ∧ ∃ r1 J1 r2 J2, zG (d + 10) 112 [.inr (.inr X), .inl 1] (S, I, R, T) = some (r1, (S, J1, R, T)) ∧ r1 = (if cr + 1 < N then cr + 1 else cr) ∧ zG (d + 10) 102 [.inr (.inr X), .inl 2] (S, J1, R, T) = some (N, (S, J1, R, T)) ∧ zG (d + 10) 110 [.inr (.inr X), .inl 2] (S, J1, R, T) = some (I X 8, (S, J1, R, T)) ∧ zG (d + 10) 112 [.inr (.inr X), .inl (-1)] (S, J1, R, T) = some (r2, (S, J2, R, T)) ∧ (cr - 1 ≤ r2 ∧ r2 ≤ 492) ∧ zG (d + 10) 102 [.inr (.inr X), .inl 2] (S, J2, R, T) = some (N, (S, J2, R, T)) ∧ (cr + 1 < N → zG (d + 10) 110 [.inr (.inr X), .inl 1] (S, J2, R, T) = some (P 519, (S, J2, R, T)) ∧ zG (d + 10) 110 [.inr (.inr X), .inl 0] (S, J2, R, T) = some (P 518, (S, J2, R, T))) ∧ zA_ex S J2 R X := by
  have hn := h.1
  obtain ⟨⟨c0, hcs⟩, nh⟩ := h.2.1
  have ca := zA_car hn
  have st := (zA_stop hn hcs).1
  have h0 := (zA_pg hn).1
  have bt := zA_Bt hn
  have lo := zs_fa_lo (zcl_fa6 hn.1 rfl)
  obtain ⟨p1, p2, p3⟩ := zA_plr hn ca.1 ca.2 nh
  obtain ⟨-, -, -, p4, p5⟩ := zA_Bv hn ca.1 p1 p2
  rw [← hcr] at p1 p2 p4 p5
  rw [← hN] at p5 bt
  refine ⟨⟨p4, p5, bt.2⟩, ?_⟩
  obtain ⟨v1, q1, a1, a2, a3, a4, a5, a6, a7⟩ := zA_down (d := d) (T := T) (x := 1) (r := if cr + 1 < N then cr + 1 else cr) h (by omega) hcr (by
    rw [← hN]
    by_cases g : cr + 1 < N
    · rw [if_pos g, if_neg (by omega), if_neg (by omega)]
    · rw [if_neg g, if_neg (by omega), if_pos (by omega)]
      omega)
  obtain ⟨r1, hr1⟩ : ∃ r1, r1 = if cr + 1 < N then cr + 1 else cr := ⟨_, rfl⟩
  rw [← hr1] at a1 a3 a4 a5 a6
  obtain ⟨J1, hJ1⟩ : ∃ J1, J1 = zi_up (zi_up I (R X 6) 2 v1) (R X 6) 3 q1 := ⟨_, rfl⟩
  rw [← hJ1] at a6 a7
  have j1 : ∀ q, q ≠ R X 6 → J1 q = I q := fun q hq => by rw [hJ1, zu_off hq, zu_off hq]
  have j1q : ∀ q, X + 135 ≤ q → q < X + 255 → J1 q = I q := fun q q1 q2 => j1 q (by omega)
  have n1 := a7.1
  have Pm0 : zt_up (zt_up P 518 v1) 519 q1 0 = P 0 := zt_mv 0 (by omega)
  have B1 : ∀ v, 0 ≤ v → v ≤ P 0 → zA_B J1 X (zt_up (zt_up P 518 v1) 519 q1) v = zA_B I X P v := fun v h1 h2 => zA_Bmv hn j1q ⟨h1, h2⟩
  have rl1 := zA_rule2 (d := d) (T := T) n1
  rw [Pm0, B1 _ (by omega) (by omega), ← hN] at rl1
  have gl1 : J1 X 8 = I X 8 := by rw [j1 X (by omega)]
  have c21 := zA_caret2 (d := d) (I := J1) (T := T) n1.1
  rw [gl1] at c21
  -- the row of the caret, down there
  have hq1 : I (X + 135 + 11 + 9 * v1 + 1) q1 = r1 - zA_B I X P v1 := by
    obtain ⟨z1, z2, z3, -⟩ := zA_Bv hn a2 a3 a4
    rcases a5 with ⟨-, -, ⟨b1, -, -⟩, -⟩ | ⟨b1, -⟩
    · exact b1
    · rw [b1]
      exact ((zA_fp hn a2).2.2 _ z2 z3).2.2.1
  have cr1 : r1 = zA_B J1 X (zt_up (zt_up P 518 v1) 519 q1) (zt_up (zt_up P 518 v1) 519 q1 518) + J1 (X + 135 + 11 + 9 * zt_up (zt_up P 518 v1) 519 q1 518 + 1) (zt_up (zt_up P 518 v1) 519 q1 519) := by
    rw [zt_mv8, zt_mv9, B1 _ a2.1 (by omega), j1q _ (by omega) (by omega), hq1]
    omega
  obtain ⟨r2, hr2⟩ : ∃ r2, r2 = if r1 + (-1) < 0 then 0 else if zA_B J1 X (zt_up (zt_up P 518 v1) 519 q1) (zt_up (zt_up P 518 v1) 519 q1 0) - 1 < r1 + (-1) then zA_B J1 X (zt_up (zt_up P 518 v1) 519 q1) (zt_up (zt_up P 518 v1) 519 q1 0) - 1 else r1 + (-1) := ⟨_, rfl⟩
  obtain ⟨v2, q2, b1, b2, b3, b4, b5, b6, b7⟩ := zA_down (d := d) (T := T) (x := -1) a7 (by omega) cr1 hr2
  rw [Pm0] at b1 b2
  rw [Pm0, B1 _ (by omega) (by omega), ← hN] at hr2
  rw [B1 _ (by omega) (by omega), ← hN] at b1
  have hr2' : r2 = if r1 - 1 < 0 then 0 else r1 - 1 := by
    rw [hr2]
    by_cases g : r1 + (-1) < 0
    · rw [if_pos g, if_pos (by omega)]
    · rw [if_neg g, if_neg (by omega), if_neg (by omega)]
      omega
  rw [B1 _ b2.1 (by omega)] at b3 b5
  rw [B1 _ (by omega) (by omega)] at b4
  obtain ⟨J2, hJ2⟩ : ∃ J2, J2 = zi_up (zi_up J1 (R X 6) 2 v2) (R X 6) 3 q2 := ⟨_, rfl⟩
  rw [← hJ2] at b6 b7
  have j2q : ∀ q, X + 135 ≤ q → q < X + 255 → J2 q = J1 q := fun q q1 q2 => by rw [hJ2, zu_off (by omega), zu_off (by omega)]
  have n2 := b7.1
  have rl2 := zA_rule2 (d := d) (T := T) n2
  rw [zt_mv 0 (by omega), Pm0, zA_Bmv n1 j2q (by rw [Pm0]; omega), B1 _ (by omega) (by omega), ← hN] at rl2
  have r1b : r1 = cr + 1 ∨ r1 = cr := by
    rw [hr1]
    split
    · exact Or.inl rfl
    · exact Or.inr rfl
  refine ⟨r1, J1, r2, J2, a6, hr1, rl1, c21, b6, ⟨?_, by omega⟩, rl2, fun gN => ?_, ⟨_, _, _, _, _, _, _, b7⟩⟩
  · rw [hr2']
    split <;> omega
  · rw [if_pos gN] at hr1
    have er : r2 = cr := by
      rw [hr2', if_neg (by omega)]
      omega
    rw [er] at b3 b4 b5
    have hv2 : v2 = P 518 := zt_line_uniq (zA_rz hn) (zA_pg hn).2.1 b2 ca.1 b3 b4 p1 p2
    have ca0 := zA_caret0 (d := d) (T := T) n2
    have ca1 := zA_caret1 (d := d) (T := T) n2
    rw [zt_mv8] at ca0
    rw [zt_mv9] at ca1
    rw [hv2] at b5 ca0
    rw [zt_mv _ (by omega), j1q _ (by omega) (by omega), j1q _ (by omega) (by omega), j1q _ (by omega) (by omega), j1q _ (by omega) (by omega), show cr - zA_B I X P (P 518) = I (X + 135 + 11 + 9 * P 518 + 1) (P 519) by omega, gl1, hg] at b5
    have hq2 := zA_near hn ca.1 ca.2 st b5
    rw [hq2] at ca1
    exact ⟨ca1, ca0⟩
/-- the last part of takes -/
theorem zT_172 (h : zA S I R X P w t m e nd nu) (hg : zA_gl I X P) {cr N : Int} (hcr : cr = zA_B I X P (P 518) + I (X + 135 + 11 + 9 * P 518 + 1) (P 519)) (hN : N = zA_B I X P (P 0)) : (0 ≤ cr ∧ cr < N ∧ N ≤ 492) ∧ ∃ r1 J1, zG (d + 10) 112 [.inr (.inr X), .inl 1] (S, I, R, T) = some (r1, (S, J1, R, T)) ∧ zG (d + 10) 102 [.inr (.inr X), .inl 2] (S, J1, R, T) = some (N, (S, J1, R, T)) ∧ r1 = (if cr + 1 < N then cr + 1 else cr) ∧ (S X).1 = 10 ∧ ∃ J2, zA_ex S J2 R X ∧ ∀ w' : Nat, zi_run zt_150 (zG (d + 10)) (w' + 1) 172 [some (.inr (.inr X)), none, none, none, none, some (.inl (P 518)), some (.inl (P 519)), some (.inl cr), some (.inl (I X 8))] [.inl (if cr + 1 < N then cr + 1 else cr), .inl r1] (S, J1, R, T) = some (1, (S, J2, R, T)) := by
  have x1 := zcl_x1 h.1.1
  obtain ⟨b, r1, J1, r2, J2, a1, a2, a3, a4, a5, a6, a7, a8, a9⟩ := zT_tail (d := d) (T := T) h hg hcr hN
  refine ⟨b, r1, J1, a1, a3, a2, x1, J2, a9, fun w' => ?_⟩
  rw [← a2, zk_150_172]
  by_cases gN : cr + 1 < N
  · obtain ⟨c1, c2⟩ := a8 gN
    ((try simp only [zbd_conv]); simp (disch := first | assumption | omega | trivial) only [↓reduceIte, zbd_some, eq_self, Int.reduceEq, Int.reduceLT, Int.reduceLE, and_self, or_true, true_or, or_false, false_or, if_pos, if_neg, if_true, if_false, true_and, and_true, not_true_eq_false, not_false_eq_true, false_and, and_false, Option.bind_some, zq_t, zq_f, zq0, zq1, zw_id, x1, a4, a5, a7, c1, c2])
  · ((try simp only [zbd_conv]); simp (disch := first | assumption | omega | trivial) only [↓reduceIte, zbd_some, eq_self, Int.reduceEq, Int.reduceLT, Int.reduceLE, and_self, or_true, true_or, or_false, false_or, if_pos, if_neg, if_true, if_false, true_and, and_true, not_true_eq_false, not_false_eq_true, false_and, and_false, Option.bind_some, zq_t, zq_f, zq0, zq1, zw_id, x1, a4, a5, a7])
end ZAd
