/-! the class: the screen -/
def zs_sc (S : zS) (R : zI) (a : Int) : Prop := 0 < a ∧ (S a).1 = 6 ∧ R a 0 = a + 1 ∧ S (a + 1) = (16, 12) ∧ ∀ l, 0 ≤ l → l < 12 → R (a + 1) l = a + 11 + 9 * l ∧ zs_ll S R (a + 11 + 9 * l)
noncomputable def zl_vis (I : zI) (a f k : Int) : Int := @ite _ (zf_hid I (f + 4) k) (Classical.propDecidable _) 0 (I (a + 11 + 9 * k) 1)
theorem zl_vis_t {I : zI} {a f k : Int} (h : zf_hid I (f + 4) k) : zl_vis I a f k = 0 := by unfold zl_vis; exact if_pos h
theorem zl_vis_f {I : zI} {a f k : Int} (h : ¬ zf_hid I (f + 4) k) : zl_vis I a f k = I (a + 11 + 9 * k) 1 := by unfold zl_vis; exact if_neg h
theorem zl_vis_ir {I : zI} {a f k : Int} (h : 1 ≤ I (a + 11 + 9 * k) 1 ∧ I (a + 11 + 9 * k) 1 ≤ 41) : 0 ≤ zl_vis I a f k ∧ zl_vis I a f k ≤ 41 := by
  by_cases g : zf_hid I (f + 4) k
  · rw [zl_vis_t g]; omega
  · rw [zl_vis_f g]; omega
/-- the signs of a line of a page -/
def zt_sg (P : Int → Int) (l : Int) : Int → Int := fun i => if 0 ≤ i ∧ i < P (1 + l) then P (13 + 40 * l + i) else 0
theorem zt_sg_in {P : Int → Int} {l i : Int} (h : 0 ≤ i ∧ i < P (1 + l)) : zt_sg P l i = P (13 + 40 * l + i) := if_pos h
/-- a line of a page, as it is laid -/
def zl_laid (P : Int → Int) (w t m e : Int) (I : zI) (a l : Int) : Prop := zl_pic (P (1 + l)) w t m (zl_ind (P (1 + l)) w t m e (zt_sg P l)) (zt_sg P l) I (a + 11 + 9 * l)
theorem zl_pic_congr {n w t m ind a : Int} {s : Int → Int} {I J : zI} (h : zl_pic n w t m ind s I a) (e : ∀ q, a ≤ q → q < a + 9 → J q = I q) : zl_pic n w t m ind s J a := by
  unfold zl_pic at *
  rw [e a (by omega) (by omega), e (a + 1) (by omega) (by omega), e (a + 2) (by omega) (by omega), e (a + 3) (by omega) (by omega), e (a + 4) (by omega) (by omega), e (a + 5) (by omega) (by omega), e (a + 6) (by omega) (by omega), e (a + 7) (by omega) (by omega), e (a + 8) (by omega) (by omega)]
  exact h
section ZSc
variable {d : Nat} {S : zS} {I J R : zI} {T : Int × Nat} {a b n v l f c m k x y r w t p i : Int} {s : Int → Int}
theorem zx_laidLine (h : zs_sc S R a) (hl : 0 ≤ l ∧ l < 12) : zG (d + 1) 77 [.inr (.inr a), .inl l] (S, I, R, T) = some (a + 11 + 9 * l, (S, I, R, T)) := by
  obtain ⟨h0, h1, h2, h3, h4⟩ := h
  obtain ⟨h5, h6⟩ := h4 l hl.1 hl.2
  rw [zm_77]
  have e : zi_run zt_77 (zG d) 1019999 23 [some (.inr (.inr a)), none, none] [.inr (.inr (a + 11 + 9 * l))] (S, I, R, T) = some (a + 11 + 9 * l, (S, I, R, T)) := by
    rw [zk_77_23]
    ((try simp only [zbd_conv]); simp (disch := first | assumption | omega | trivial) only [↓reduceIte, zbd_some, eq_self, Int.reduceEq, Int.reduceLT, Int.reduceLE, and_self, or_true, true_or, or_false, false_or, if_pos, if_neg, if_true, if_false, true_and, and_true, not_true_eq_false, not_false_eq_true, false_and, and_false, Option.bind_some, zq_t, zq_f, zq0, zq1, zw_id])
  ((try simp only [zbd_conv]); simp (disch := first | assumption | omega | trivial) only [↓reduceIte, zbd_some, eq_self, Int.reduceEq, Int.reduceLT, Int.reduceLE, and_self, or_true, true_or, or_false, false_or, if_pos, if_neg, if_true, if_false, true_and, and_true, not_true_eq_false, not_false_eq_true, false_and, and_false, Option.bind_some, zq_t, zq_f, zq0, zq1, zw_id, h1, h2, h3, h5, e])
theorem zx_layLines (h : zs_sc S R a) (g : zs_li S R p) (hs : zs_se S c) (hr : zr_se I c) (hap : a + 120 ≤ p ∨ p + 3 ≤ a) (hac : c < a ∨ a + 120 ≤ c) {P : Int → Int} (hk : I p 0 = P 0) (hk2 : 0 ≤ P 0 ∧ P 0 ≤ 12) (hn : ∀ l, 0 ≤ l → l < P 0 → I (p + 1) l = P (1 + l) ∧ 0 ≤ P (1 + l) ∧ P (1 + l) ≤ 40) (hsg : ∀ l i, 0 ≤ l → l < P 0 → 0 ≤ i → i < P (1 + l) → I (p + 2) (l * 40 + i) = P (13 + 40 * l + i)) : ∃ J, zG (d + 6) 78 [.inr (.inr a), .inr (.inr p), .inr (.inr c)] (S, I, R, T) = some (0, (S, J, R, T)) ∧ zo a (a + 120) I J ∧ ∀ l, 0 ≤ l → l < P 0 → zl_laid P (I c 0) (I c 1) (I c 2) (I c 3) J a l := by
  obtain ⟨h0, h1, h2, h3, h4⟩ := id h
  have g1 := g.2.1
  rw [zm_78]
  have key : ∀ (w : Nat) (k : Int) (M : zI), 0 ≤ k → k ≤ P 0 → zo a (a + 120) I M → (∀ l, 0 ≤ l → l < k → zl_laid P (I c 0) (I c 1) (I c 2) (I c 3) M a l) → (P 0 - k).toNat < w → ∃ J, zi_run zt_78 (zG (d + 5)) w 2 [some (.inr (.inr a)), some (.inr (.inr p)), some (.inr (.inr c)), some (.inl k)] [] (S, M, R, T) = some (0, (S, J, R, T)) ∧ zo a (a + 120) I J ∧ ∀ l, 0 ≤ l → l < P 0 → zl_laid P (I c 0) (I c 1) (I c 2) (I c 3) J a l := by
    intro w
    induction w with
    | zero => intro k _ _ _ _ _ q; omega
    | succ w ih =>
      intro k M k1 k2 ho hM k3
      have mp : M p = I p := ho p (by omega)
      have mp1 : M (p + 1) = I (p + 1) := ho (p + 1) (by omega)
      have mp2 : M (p + 2) = I (p + 2) := ho (p + 2) (by omega)
      have mc : M c = I c := ho c (by omega)
      rw [zk_78_2]
      by_cases hkn : k < P 0
      · obtain ⟨h5, h6⟩ := h4 k k1 (by omega)
        obtain ⟨n1, n2⟩ := hn k k1 hkn
        obtain ⟨J, e1, e2, e3⟩ := zx_arrange (d := d) (I := M) (T := T) (s := zt_sg P k) h6 g hs (zr_se_congr hr mc) (by omega) (by omega) (show 0 ≤ k ∧ k < 12 by omega) (by rw [mp1]; exact n1) n2 (fun i i1 i2 => by rw [mp2, zt_sg_in ⟨i1, i2⟩]; exact hsg k i k1 hkn i1 i2)
        rw [mc] at e3
        ((try simp only [zbd_conv]); simp (disch := first | assumption | omega | trivial) only [↓reduceIte, zbd_some, eq_self, Int.reduceEq, Int.reduceLT, Int.reduceLE, and_self, or_true, true_or, or_false, false_or, if_pos, if_neg, if_true, if_false, true_and, and_true, not_true_eq_false, not_false_eq_true, false_and, and_false, Option.bind_some, zq_t, zq_f, zq0, zq1, zw_id, g1, mp, hk, h1, zx_laidLine h, h6.2.1, e1])
        refine ih (k + 1) J (by omega) (by omega) (fun x hx => (e2 x (by omega)).trans (ho x hx)) (fun l l1 l2 => ?_) (by omega)
        by_cases hlk : l = k
        · rw [hlk]; exact e3
        · exact zl_pic_congr (hM l l1 (by omega)) (fun q q1 q2 => e2 q (by omega))
      · obtain rfl : k = P 0 := by omega
        ((try simp only [zbd_conv]); simp (disch := first | assumption | omega | trivial) only [↓reduceIte, zbd_some, eq_self, Int.reduceEq, Int.reduceLT, Int.reduceLE, and_self, or_true, true_or, or_false, false_or, if_pos, if_neg, if_true, if_false, true_and, and_true, not_true_eq_false, not_false_eq_true, false_and, and_false, Option.bind_some, zq_t, zq_f, zq0, zq1, zw_id, g1, mp, hk])
        exact ⟨M, rfl, ho, hM⟩
  exact key 1019999 0 I (by omega) hk2.1 zo_refl (fun l l1 l2 => absurd l1 (by omega)) (by omega)
theorem zx_firstRowOf (h : zs_sc S R a) (g : zs_fr S R f) (hf : I (f + 4) 0 ≤ 8) (hl : 0 ≤ l ∧ l ≤ 12) (hr : ∀ k, 0 ≤ k → k < l → 1 ≤ I (a + 11 + 9 * k) 1 ∧ I (a + 11 + 9 * k) 1 ≤ 41) : zG (d + 4) 80 [.inr (.inr a), .inr (.inr f), .inl l] (S, I, R, T) = some (zk_sm (zl_vis I a f) l, (S, I, R, T)) := by
  obtain ⟨h0, h1, h2, h3, h4⟩ := id h
  obtain ⟨g0, g1, g2, g3, g4, g5⟩ := id g
  rw [zm_80]
  refine zl_sum (n := l) (g := zl_vis I a f) (run := fun w k s => zi_run zt_80 (zG (d + 3)) w 5 [some (.inr (.inr a)), some (.inr (.inr f)), some (.inl l), some (.inl s), some (.inl k)] [] (S, I, R, T)) hl.1 (fun w k k0 k1 => ?_) (fun w => ?_) (by omega) <;> (show zi_run _ _ _ _ _ _ _ = _) <;> rw [zk_80_5]
  · have hs := zk_sm_ir (g := zl_vis I a f) (m := 41) k0 (fun j j1 j2 => zl_vis_ir (hr j j1 (by omega)))
    generalize zk_sm _ k = s at hs ⊢
    have hrk := hr k k0 k1
    obtain ⟨h5, h6⟩ := h4 k k0 (by omega)
    by_cases p : zf_hid I (f + 4) k
    · ((try simp only [zbd_conv]); simp (disch := first | assumption | omega | trivial) only [↓reduceIte, zbd_some, eq_self, Int.reduceEq, Int.reduceLT, Int.reduceLE, and_self, or_true, true_or, or_false, false_or, if_pos, if_neg, if_true, if_false, true_and, and_true, not_true_eq_false, not_false_eq_true, false_and, and_false, Option.bind_some, zq_t, zq_f, zq0, zq1, zw_id, g1, g3, g5.2.1, zx_hides g5 hf, zl_vis_t, Int.add_zero])
    · ((try simp only [zbd_conv]); simp (disch := first | assumption | omega | trivial) only [↓reduceIte, zbd_some, eq_self, Int.reduceEq, Int.reduceLT, Int.reduceLE, and_self, or_true, true_or, or_false, false_or, if_pos, if_neg, if_true, if_false, true_and, and_true, not_true_eq_false, not_false_eq_true, false_and, and_false, Option.bind_some, zq_t, zq_f, zq0, zq1, zw_id, g1, g3, g5.2.1, zx_hides g5 hf, zl_vis_f, h1, zx_laidLine h, h6.2.1])
  · generalize zk_sm _ l = s
    ((try simp only [zbd_conv]); simp (disch := first | assumption | omega | trivial) only [↓reduceIte, zbd_some, eq_self, Int.reduceEq, Int.reduceLT, Int.reduceLE, and_self, or_true, true_or, or_false, false_or, if_pos, if_neg, if_true, if_false, true_and, and_true, not_true_eq_false, not_false_eq_true, false_and, and_false, Option.bind_some, zq_t, zq_f, zq0, zq1, zw_id])
theorem zx_rowCount (h : zs_sc S R a) (g : zs_fr S R f) (hf : I (f + 4) 0 ≤ 8) (hl : 0 ≤ I (f + 1) 0 ∧ I (f + 1) 0 ≤ 12) (hr : ∀ k, 0 ≤ k → k < I (f + 1) 0 → 1 ≤ I (a + 11 + 9 * k) 1 ∧ I (a + 11 + 9 * k) 1 ≤ 41) : zG (d + 5) 79 [.inr (.inr a), .inr (.inr f)] (S, I, R, T) = some (zk_sm (zl_vis I a f) (I (f + 1) 0), (S, I, R, T)) := by
  obtain ⟨g0, g1, g2, g3, g4, g5⟩ := id g
  rw [zm_79]
  ((try simp only [zbd_conv]); simp (disch := first | assumption | omega | trivial) only [↓reduceIte, zbd_some, eq_self, Int.reduceEq, Int.reduceLT, Int.reduceLE, and_self, or_true, true_or, or_false, false_or, if_pos, if_neg, if_true, if_false, true_and, and_true, not_true_eq_false, not_false_eq_true, false_and, and_false, Option.bind_some, zq_t, zq_f, zq0, zq1, zw_id, g1, g2, g4.2.1, h.2.1, zx_firstRowOf h g hf hl hr])
theorem zx_ScrowOf (h : zs_sc S R a) (g : zs_fr S R f) (hf : I (f + 4) 0 ≤ 8) (hl : 0 ≤ l ∧ l < 12) (hr : ∀ k, 0 ≤ k → k < l → 1 ≤ I (a + 11 + 9 * k) 1 ∧ I (a + 11 + 9 * k) 1 ≤ 41) (hi : 0 ≤ i ∧ i ≤ 40) (hri : 0 ≤ I (a + 11 + 9 * l + 1) i ∧ I (a + 11 + 9 * l + 1) i ≤ 41) : zG (d + 5) 81 [.inr (.inr a), .inr (.inr f), .inl l, .inl i] (S, I, R, T) = some (zk_sm (zl_vis I a f) l + I (a + 11 + 9 * l + 1) i, (S, I, R, T)) := by
  obtain ⟨h0, h1, h2, h3, h4⟩ := id h
  obtain ⟨h5, h6⟩ := h4 l hl.1 hl.2
  have hs := zk_sm_ir (g := zl_vis I a f) (m := 41) hl.1 (fun j j1 j2 => zl_vis_ir (hr j j1 (by omega)))
  rw [zm_81]
  ((try simp only [zbd_conv]); simp (disch := first | assumption | omega | trivial) only [↓reduceIte, zbd_some, eq_self, Int.reduceEq, Int.reduceLT, Int.reduceLE, and_self, or_true, true_or, or_false, false_or, if_pos, if_neg, if_true, if_false, true_and, and_true, not_true_eq_false, not_false_eq_true, false_and, and_false, Option.bind_some, zq_t, zq_f, zq0, zq1, zw_id, h1, zx_firstRowOf h g hf (show 0 ≤ l ∧ l ≤ 12 by omega) hr, zx_laidLine h, h6.2.1, zx_rowOf h6, zk_pk_in])
theorem zx_lineOfRow (h : zs_sc S R a) (g : zs_fr S R f) (hf : I (f + 4) 0 ≤ 8) (hl : 0 ≤ I (f + 1) 0 ∧ I (f + 1) 0 ≤ 12) (hr : ∀ k, 0 ≤ k → k < I (f + 1) 0 → 1 ≤ I (a + 11 + 9 * k) 1 ∧ I (a + 11 + 9 * k) 1 ≤ 41) (hri : r < 2147483648) : ∃ v, zG (d + 4) 82 [.inr (.inr a), .inr (.inr f), .inl r] (S, I, R, T) = some (v, (S, I, R, T)) ∧ ((r < 0 ∧ v = -1) ∨ (zk_sm (zl_vis I a f) (I (f + 1) 0) ≤ r ∧ v = -1) ∨ ((0 ≤ v ∧ v < I (f + 1) 0) ∧ zk_sm (zl_vis I a f) v ≤ r ∧ r < zk_sm (zl_vis I a f) (v + 1))) := by
  obtain ⟨h0, h1, h2, h3, h4⟩ := id h
  obtain ⟨g0, g1, g2, g3, g4, g5⟩ := id g
  rw [zm_82]
  by_cases hr0 : r < 0
  · ((try simp only [zbd_conv]); simp (disch := first | assumption | omega | trivial) only [↓reduceIte, zbd_some, eq_self, Int.reduceEq, Int.reduceLT, Int.reduceLE, and_self, or_true, true_or, or_false, false_or, if_pos, if_neg, if_true, if_false, true_and, and_true, not_true_eq_false, not_false_eq_true, false_and, and_false, Option.bind_some, zq_t, zq_f, zq0, zq1, zw_id])
    exact ⟨_, rfl, Or.inl ⟨hr0, rfl⟩⟩
  · ((try simp only [zbd_conv]); simp (disch := first | assumption | omega | trivial) only [↓reduceIte, zbd_some, eq_self, Int.reduceEq, Int.reduceLT, Int.reduceLE, and_self, or_true, true_or, or_false, false_or, if_pos, if_neg, if_true, if_false, true_and, and_true, not_true_eq_false, not_false_eq_true, false_and, and_false, Option.bind_some, zq_t, zq_f, zq0, zq1, zw_id])
    have key : ∀ (w : Nat) (k : Int), 0 ≤ k → k ≤ I (f + 1) 0 → zk_sm (zl_vis I a f) k ≤ r → (I (f + 1) 0 - k).toNat < w → ∃ v, zi_run zt_82 (zG (d + 3)) w 11 [some (.inr (.inr a)), some (.inr (.inr f)), none, some (.inl (r - zk_sm (zl_vis I a f) k)), some (.inl k), none] [] (S, I, R, T) = some (v, (S, I, R, T)) ∧ ((r < 0 ∧ v = -1) ∨ (zk_sm (zl_vis I a f) (I (f + 1) 0) ≤ r ∧ v = -1) ∨ ((0 ≤ v ∧ v < I (f + 1) 0) ∧ zk_sm (zl_vis I a f) v ≤ r ∧ r < zk_sm (zl_vis I a f) (v + 1))) := by
      intro w
      induction w with
      | zero => intro k _ _ _ q; omega
      | succ w ih =>
        intro k k1 k2 k3 k4
        have hs := zk_sm_ir (g := zl_vis I a f) (m := 41) k1 (fun j j1 j2 => zl_vis_ir (hr j j1 (by omega)))
        rw [zk_82_11]
        by_cases hk : k < I (f + 1) 0
        · have hrk := hr k k1 hk
          obtain ⟨h5, h6⟩ := h4 k k1 (by omega)
          have hS := zk_smS (g := zl_vis I a f) k1
          by_cases p : zf_hid I (f + 4) k
          · have nx := ih (k + 1) (by omega) (by omega) (by rw [hS, zl_vis_t p]; omega) (by omega)
            rw [hS, zl_vis_t p] at nx
            ((try simp only [zbd_conv]); simp (disch := first | assumption | omega | trivial) only [↓reduceIte, zbd_some, eq_self, Int.reduceEq, Int.reduceLT, Int.reduceLE, and_self, or_true, true_or, or_false, false_or, if_pos, if_neg, if_true, if_false, true_and, and_true, not_true_eq_false, not_false_eq_true, false_and, and_false, Option.bind_some, zq_t, zq_f, zq0, zq1, zw_id, g1, g2, g3, g4.2.1, g5.2.1, zx_hides g5 hf])
            rw [show r - zk_sm (zl_vis I a f) k - 0 = r - (zk_sm (zl_vis I a f) k + 0) by omega]
            exact nx
          · by_cases q : r - zk_sm (zl_vis I a f) k < I (a + 11 + 9 * k) 1
            · ((try simp only [zbd_conv]); simp (disch := first | assumption | omega | trivial) only [↓reduceIte, zbd_some, eq_self, Int.reduceEq, Int.reduceLT, Int.reduceLE, and_self, or_true, true_or, or_false, false_or, if_pos, if_neg, if_true, if_false, true_and, and_true, not_true_eq_false, not_false_eq_true, false_and, and_false, Option.bind_some, zq_t, zq_f, zq0, zq1, zw_id, g1, g2, g3, g4.2.1, g5.2.1, zx_hides g5 hf, h1, zx_laidLine h, h6.2.1])
              exact ⟨_, rfl, Or.inr (Or.inr ⟨⟨k1, hk⟩, k3, by rw [hS, zl_vis_f p]; omega⟩)⟩
            · have nx := ih (k + 1) (by omega) (by omega) (by rw [hS, zl_vis_f p]; omega) (by omega)
              rw [hS, zl_vis_f p] at nx
              ((try simp only [zbd_conv]); simp (disch := first | assumption | omega | trivial) only [↓reduceIte, zbd_some, eq_self, Int.reduceEq, Int.reduceLT, Int.reduceLE, and_self, or_true, true_or, or_false, false_or, if_pos, if_neg, if_true, if_false, true_and, and_true, not_true_eq_false, not_false_eq_true, false_and, and_false, Option.bind_some, zq_t, zq_f, zq0, zq1, zw_id, g1, g2, g3, g4.2.1, g5.2.1, zx_hides g5 hf, h1, zx_laidLine h, h6.2.1])
              rw [show r - zk_sm (zl_vis I a f) k - I (a + 11 + 9 * k) 1 = r - (zk_sm (zl_vis I a f) k + I (a + 11 + 9 * k) 1) by omega]
              exact nx
        · obtain rfl : k = I (f + 1) 0 := by omega
          ((try simp only [zbd_conv]); simp (disch := first | assumption | omega | trivial) only [↓reduceIte, zbd_some, eq_self, Int.reduceEq, Int.reduceLT, Int.reduceLE, and_self, or_true, true_or, or_false, false_or, if_pos, if_neg, if_true, if_false, true_and, and_true, not_true_eq_false, not_false_eq_true, false_and, and_false, Option.bind_some, zq_t, zq_f, zq0, zq1, zw_id, g1, g2, g4.2.1])
          exact ⟨_, rfl, Or.inr (Or.inl ⟨k3, rfl⟩)⟩
    have := key 1019999 0 (by omega) hl.1 (by rw [zk_sm0 (by omega)]; omega) (by omega)
    rw [zk_sm0 (show (0 : Int) ≤ 0 by omega), show r - 0 = r by omega] at this
    exact this
end ZSc
