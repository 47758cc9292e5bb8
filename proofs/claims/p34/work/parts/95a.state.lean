/-! the object alone: its state, with the caret and the history -/
def zA_slot (I R : zI) (X k : Int) : Prop := ∃ Q : Int → Int, zv_rep I (R (X + 6) k) Q ∧ zw_page Q ∧ ¬ zt_hid Q (Q 518)
def zA_his (I R : zI) (X nd nu : Int) : Prop := (I (X + 5) 1 = nd ∧ I (X + 5) 2 = nu) ∧ (0 ≤ nd ∧ 0 ≤ nu ∧ nd + nu ≤ 16) ∧ ∀ k, 0 ≤ k → k < nd + nu → zA_slot I R X k
def zA_cs (P : Int → Int) (w t m e : Int) : Prop := (∃ c, zl_settle P w t m e (P 519) c) ∧ ¬ zt_hid P (P 518)
def zA (S : zS) (I R : zI) (X : Int) (P : Int → Int) (w t m e nd nu : Int) : Prop := zA_now S I R X P w t m e ∧ zA_cs P w t m e ∧ zA_his I R X nd nu
section ZA7
variable {d : Nat} {S : zS} {I J J0 J1 K R R' : zI} {T : Int × Nat} {X n v l f c k x y z r i j p w t m e a b N nd nu : Int} {P Q : Int → Int} {σ : zM}
theorem zt_hid_congr (hw : zw_page P) (hq : ∀ j, 493 ≤ j → j < 518 → Q j = P j) : zt_hid Q l ↔ zt_hid P l := by
  have h3 := hw.2.2.1
  unfold zt_hid
  rw [hq 493 (by omega) (by omega)]
  constructor
  · rintro ⟨k, ⟨k1, k2⟩, k3⟩
    rw [hq _ (by omega) (by omega), hq _ (by omega) (by omega), hq _ (by omega) (by omega)] at k3
    exact ⟨k, ⟨k1, k2⟩, k3⟩
  · rintro ⟨k, ⟨k1, k2⟩, k3⟩
    rw [← hq _ (by omega) (by omega), ← hq (494 + 3 * k) (by omega) (by omega), ← hq (495 + 3 * k) (by omega) (by omega)] at k3
    exact ⟨k, ⟨k1, k2⟩, k3⟩
theorem zA_stop (h : zA_now S I R X P w t m e) (hs : zl_settle P w t m e (P 519) c) : I (X + 135 + 11 + 9 * P 518 + 5) (P 519) = 1 ∧ c = I (X + 135 + 11 + 9 * P 518 + 2) (P 519) := by
  obtain ⟨c1, c2⟩ := zA_car h
  have pic := zA_pic h c1
  have hn := zA_len h c1
  obtain ⟨_, rA, cA, ceA, hA, rB, g1, g2, g3⟩ := hs
  obtain ⟨u1, u2, u3, u4⟩ := zl_uniq hn.1 g1 pic.2.2.1
  refine ⟨?_, by rw [g3]; exact (u3 _ c2.1 c2.2).2⟩
  rw [pic.2.2.2.1 _ c2.1 c2.2]
  refine zq_t ?_
  rcases g2.2.2.1 with q | q
  · exact Or.inr (Or.inl q)
  · by_cases g : P 519 = P (1 + P 518)
    · exact Or.inr (Or.inl g)
    · exact (zl_isstop_congr (u4 _ c2.1 (by omega)).2).mp q
theorem zA_settled (h : zA_now S I R X P w t m e) (hs : I (X + 135 + 11 + 9 * P 518 + 5) (P 519) = 1) : zl_settle P w t m e (P 519) (I (X + 135 + 11 + 9 * P 518 + 2) (P 519)) := by
  obtain ⟨c1, c2⟩ := zA_car h
  have pic := zA_pic h c1
  rw [pic.2.2.2.1 _ c2.1 c2.2, zq1] at hs
  exact ⟨_, _, _, _, _, _, pic.2.2.1, ⟨Int.le_refl _, c2.2, Or.inr hs, fun k k1 k2 => by omega⟩, rfl⟩
theorem zA_his_I (h : zA_his I R X nd nu) (e1 : J (X + 5) = I (X + 5)) (e2 : ∀ k, 0 ≤ k → k < 16 → ∀ q, R (X + 6) k ≤ q → q < R (X + 6) k + 8 → J q = I q) : zA_his J R X nd nu := by
  obtain ⟨h1, h2, h3⟩ := h
  refine ⟨by rw [e1]; exact h1, h2, fun k k1 k2 => ?_⟩
  obtain ⟨Q, q1, q2⟩ := h3 k k1 k2
  exact ⟨Q, zv_rep_congr q1 (e2 k k1 (by omega)), q2⟩
theorem zA_fr (hc : zs_cl S R X) (hf : R X 6 = f) (hk : 0 ≤ k ∧ k < 16) : X + 7 ≤ R (X + 6) k ∧ (R (X + 6) k + 8 ≤ X + 135 ∨ (X + 256 ≤ R (X + 6) k ∧ R (X + 6) k + 8 ≤ X + 272)) ∧ (R (X + 6) k + 8 ≤ f ∨ f + 8 ≤ R (X + 6) k) := by
  have fa6 := zcl_fa6 hc hf
  have fk := zcl_fas hc hk
  have ne := (hc.2.2.2.2.2.2.2.2.2.2.2.1 k hk.1 hk.2).1
  rw [hf] at ne
  have lok := zs_fa_lo fk
  exact ⟨lok.1, lok.2, zs_fa_ne fk fa6 ne⟩
/-- the caret elsewhere -/
theorem zA_mvn (h : zA_now S I R X P w t m e) (hf : R X 6 = f) (hl : 0 ≤ l ∧ l < P 0) (hp : 0 ≤ p ∧ p ≤ P (1 + l)) (kI : ∀ q, q ≠ X → q ≠ f → K q = I q) (kf : K f = zi_up (zi_up I f 2 l) f 3 p f) : zA_now S K R X (zt_up (zt_up P 518 l) 519 p) w t m e := by
  obtain ⟨hc, ⟨hrep, hwf⟩, hset, hlay⟩ := id h
  rw [hf] at hrep
  have lo := zs_fa_lo (zcl_fa6 hc hf)
  have h0 := hwf.1
  have rc := zv_rep_caret (l := l) (p := p) hrep hwf hl hp
  refine ⟨hc, ⟨?_, rc.2⟩, ?_, fun l' l1 l2 => ?_⟩
  · rw [hf]
    refine zv_rep_congr rc.1 (fun q q1 q2 => ?_)
    by_cases g : q = f
    · rw [g, kf]
    · rw [kI q (by omega) g, zu_off g, zu_off g]
  · unfold zA_set at *
    rw [kI (X + 4) (by omega) (by omega)]
    exact hset
  · rw [zt_mv 0 (by omega)] at l2
    have hn := hwf.2.1 l' l1 l2
    exact zl_laid_congr (P := P) (zl_laid_mem (hlay l' l1 l2) (by omega) (fun q q1 q2 => kI q (by omega) (by omega))) (by omega) (zt_mv _ (by omega)) (fun i i1 i2 => zt_mv _ (by omega))
theorem zA_move (h : zA S I R X P w t m e nd nu) (hf : R X 6 = f) (hl : 0 ≤ l ∧ l < P 0) (hp : 0 ≤ p ∧ p ≤ P (1 + l)) (hs : I (X + 135 + 11 + 9 * l + 5) p = 1) (nh : ¬ zt_hid P l) (kI : ∀ q, q ≠ X → q ≠ f → K q = I q) (kf : K f = zi_up (zi_up I f 2 l) f 3 p f) : zA S K R X (zt_up (zt_up P 518 l) 519 p) w t m e nd nu := by
  obtain ⟨h1, h2, h3⟩ := h
  have hn := zA_mvn h1 hf hl hp kI kf
  have lo := zs_fa_lo (zcl_fa6 h1.1 hf)
  have h0 := (zA_pg h1).1
  refine ⟨hn, ⟨⟨_, zA_settled hn ?_⟩, ?_⟩, zA_his_I h3 (kI _ (by omega) (by omega)) (fun k k1 k2 q q1 q2 => ?_)⟩
  · rw [zt_mv8, zt_mv9, kI _ (by omega) (by omega)]
    exact hs
  · rw [zt_mv8, zt_hid_congr (zA_pg h1) (fun j j1 j2 => zt_mv j j2)]
    exact nh
  · have := zA_fr h1.1 hf ⟨k1, k2⟩
    exact kI q (by omega) (by omega)
/-- behind a laying of lines -/
theorem zl_settle_set (hw : zw_page P) (h : zl_settle P w t m e v c) : zl_settle (zt_up P 519 v) w t m e (zt_up P 519 v 519) c := by
  have h0 := hw.1
  obtain ⟨w6, w7, w8⟩ := hw.2.2.2.2.2
  have wn := hw.2.1 _ w6.1 w6.2
  obtain ⟨_, rA, cA, ceA, hA, rB, g1, g2, g3⟩ := h
  have e8 : zt_up P 519 v 518 = P 518 := zt_up_ne (by omega)
  have e1 : zt_up P 519 v (1 + P 518) = P (1 + P 518) := zt_up_ne (by omega)
  have e9 : zt_up P 519 v 519 = v := zt_up_eq rfl
  have es : zt_sg (zt_up P 519 v) (P 518) = zt_sg P (P 518) := zt_sg_congr e1 (fun i i1 i2 => zt_up_ne (by omega))
  unfold zl_settle
  rw [e8, e1, e9, es]
  exact ⟨_, _, _, _, _, _, g1, ⟨Int.le_refl _, g2.2.1, g2.2.2.1, fun k k1 k2 => by omega⟩, g3⟩
theorem zA_done (hc : zs_cl S R X) (hf : R X 6 = f) (hw : zw_page P) (hset : zA_set J0 X w t m e) (hd : zc_done J0 J X f P w t m e) : ∃ v c, zl_settle P w t m e v c ∧ J X 8 = c ∧ zA_now S J R X (zt_up P 519 v) w t m e ∧ (∃ c', zl_settle (zt_up P 519 v) w t m e (zt_up P 519 v 519) c') ∧ (∀ q, q ≠ X → q ≠ f → (q < X + 135 ∨ X + 255 ≤ q) → J q = J0 q) := by
  obtain ⟨v, c, d1, d2, d3, d4, d5, d6⟩ := hd
  have lo := zs_fa_lo (zcl_fa6 hc hf)
  refine ⟨v, c, d1, d4, ⟨hc, by rw [hf]; exact d5, ?_, fun l l1 l2 => ?_⟩, ⟨c, zl_settle_set hw d1⟩, d2⟩
  · unfold zA_set at *
    rw [d2 (X + 4) (by omega) (by omega) (by omega)]
    exact hset
  · rw [zt_up_ne (by omega)] at l2
    exact d6 l l1 l2
theorem zA_full (hc : zs_cl S R X) (hf : R X 6 = f) (hw : zw_page P) (nh : ¬ zt_hid P (P 518)) (hset : zA_set J0 X w t m e) (hhis : zA_his J0 R X nd nu) (hd : zc_done J0 J X f P w t m e) : ∃ v c, zl_settle P w t m e v c ∧ J X 8 = c ∧ zA S J R X (zt_up P 519 v) w t m e nd nu ∧ (∀ q, q ≠ X → q ≠ f → (q < X + 135 ∨ X + 255 ≤ q) → J q = J0 q) := by
  obtain ⟨v, c, a1, a2, a3, a4, a5⟩ := zA_done hc hf hw hset hd
  have lo := zs_fa_lo (zcl_fa6 hc hf)
  refine ⟨v, c, a1, a2, ⟨a3, ⟨a4, ?_⟩, zA_his_I hhis (a5 _ (by omega) (by omega) (by omega)) (fun k k1 k2 q q1 q2 => ?_)⟩, a5⟩
  · rw [show zt_up P 519 v 518 = P 518 from zt_up_ne (by omega), zt_hid_congr hw (fun j j1 j2 => zt_up_ne (by omega))]
    exact nh
  · have := zA_fr hc hf ⟨k1, k2⟩
    exact a5 q (by omega) (by omega) (by omega)
/-- a page that is settled stays -/
theorem zA_stay (hw : zw_page P) (h : ∃ c, zl_settle P w t m e (P 519) c) (hs : zl_settle P w t m e v c) : zt_up P 519 v = P := by
  obtain ⟨c', h⟩ := h
  obtain ⟨w6, w7, w8⟩ := hw.2.2.2.2.2
  obtain ⟨e1, -⟩ := zl_settle_uniq (hw.2.1 _ w6.1 w6.2).1 w7 hs h
  funext j
  by_cases g : j = 519
  · rw [zt_up_eq g, e1, g]
  · rw [zt_up_ne g]
end ZA7
