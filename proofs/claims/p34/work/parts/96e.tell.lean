/-! the law: tell -/
section ZAg
variable {d : Nat} {S : zS} {I J J0 J1 J2 K R R' F0 : zI} {T : Int × Nat} {X Z V s0 n v l f g c k x y z r i j p w t m e a b N nd nu o u L F : Int} {P P2 Q Q0 Q2 : Int → Int} {σ : zM} {q : zT4} {tp tp' : Int → Int}
theorem zx_Lcell (hs : S s0 = (18, L)) (hL : 0 ≤ L ∧ L ≤ 260) (hx : 0 ≤ x ∧ x < 2147483648) : ∃ v, zG (d + 1) 139 [.inr (.inr s0), .inl x] (S, I, R, T) = some (v, (S, I, R, T)) := by
  by_cases g : L = 0
  · refine ⟨zi_w (zi_w (7919 * x) + 3), ?_⟩
    rw [zm_139]
    ((try simp only [zbd_conv]); simp (disch := first | assumption | omega | trivial) only [↓reduceIte, zbd_sm, eq_self, Int.reduceEq, Int.reduceLT, Int.reduceLE, and_self, or_true, true_or, or_false, false_or, if_pos, if_neg, if_true, if_false, true_and, and_true, not_true_eq_false, not_false_eq_true, false_and, and_false, zq_t, zq_f, zq0, zq1, zw_id, hs, g])
  · have hr := zi_rem_b (x := x) (y := L) hx (by omega)
    refine ⟨zi_xor (zi_xor (zi_shr (I s0 (zi_rem x L)) (zi_rem x 7)) (zi_w (zi_div x L * 31))) (zi_w (x * 2654435)), ?_⟩
    rw [zm_139]
    ((try simp only [zbd_conv]); simp (disch := first | assumption | omega | trivial) only [↓reduceIte, zbd_sm, eq_self, Int.reduceEq, Int.reduceLT, Int.reduceLE, and_self, or_true, true_or, or_false, false_or, if_pos, if_neg, if_true, if_false, true_and, and_true, not_true_eq_false, not_false_eq_true, false_and, and_false, zq_t, zq_f, zq0, zq1, zw_id, hs, g, hr.1, hr.2])
theorem zi_div8 (h : 0 ≤ x ∧ x ≤ 1000) : zi_div x 8 = x / 8 := by
  unfold zi_div
  rw [Int.tdiv_eq_ediv_of_nonneg h.1, zw_id (by omega) (by omega)]
theorem zx_Lput (hs : S Z = (19, 60)) (hl : 0 ≤ l ∧ l ≤ 6) (hi : 0 ≤ i ∧ i ≤ 39) : ∃ J, zG (d + 1) 141 [.inr (.inr Z), .inl l, .inl i, .inl c] (S, I, R, T) = some (0, (S, J, R, T)) ∧ ∀ q, q ≠ Z → J q = I q := by
  refine ⟨zi_up I Z (5 * l + i / 8) (zi_lor (zi_land (I Z (5 * l + i / 8)) (zi_lxor (zi_lshl 255 (zi_w (8 * zi_rem i 8))) (-1))) (zi_lshl c (zi_w (8 * zi_rem i 8)))), ?_, fun q hq => zu_off hq⟩
  rw [zm_141]
  ((try simp only [zbd_conv]); simp (disch := first | assumption | omega | trivial) only [↓reduceIte, zbd_sm, eq_self, Int.reduceEq, Int.reduceLT, Int.reduceLE, and_self, or_true, true_or, or_false, false_or, if_pos, if_neg, if_true, if_false, true_and, and_true, not_true_eq_false, not_false_eq_true, false_and, and_false, zq_t, zq_f, zq0, zq1, zw_id, hs, zi_div8, zwr])
/-- the law's own row of folds -/
def zVv (I : zI) (V N F b : Int) : Prop := I V 12 = N ∧ I V 13 = F ∧ ∀ k, 0 ≤ k → k < F → (0 ≤ I V (14 + 3 * k) ∧ I V (14 + 3 * k) < I V (15 + 3 * k)) ∧ I V (15 + 3 * k) < b
theorem zVv_mono (h : zVv I V N F b) (hb : b ≤ c) : zVv I V N F c := ⟨h.1, h.2.1, fun k k1 k2 => ⟨(h.2.2 k k1 k2).1, by have := (h.2.2 k k1 k2).2; omega⟩⟩
theorem zVv_I (h : zVv I V N F b) (hJ : J V = I V) : zVv J V N F b := by
  unfold zVv at *
  rw [hJ]
  exact h
theorem zx_Lclashes (hs : S V = (12, 40)) (h : zVv I V N F a) (hF : 0 ≤ F ∧ F ≤ 7) (hab : a < b) : zG (d + 3) 143 [.inr (.inr V), .inl F, .inl a, .inl b] (S, I, R, T) = some (0, (S, I, R, T)) := by
  have key : ∀ (u : Nat) (k : Int) (w' : Nat), (u : Int) + k = F → 0 ≤ k → 2 * u + 1 ≤ w' → zi_run zt_143 (zG (d + 2)) w' 6 [some (.inr (.inr V)), some (.inl F), some (.inl a), some (.inl b), some (.inl 0), some (.inl k)] [] (S, I, R, T) = some (0, (S, I, R, T)) := by
    intro u
    induction u with
    | zero =>
      intro k w' e1 e2 e3
      obtain ⟨w', rfl⟩ : ∃ w'', w' = w'' + 1 := ⟨w' - 1, by omega⟩
      rw [zk_143_6]
      ((try simp only [zbd_conv]); simp (disch := first | assumption | omega | trivial) only [↓reduceIte, zbd_sm, eq_self, Int.reduceEq, Int.reduceLT, Int.reduceLE, and_self, or_true, true_or, or_false, false_or, if_pos, if_neg, if_true, if_false, true_and, and_true, not_true_eq_false, not_false_eq_true, false_and, and_false, zq_t, zq_f, zq0, zq1, zw_id, hs])
    | succ u ih =>
      intro k w' e1 e2 e3
      obtain ⟨w', rfl⟩ : ∃ w'', w' = w'' + 1 + 1 := ⟨w' - 2, by omega⟩
      obtain ⟨⟨k1, k2⟩, k3⟩ := h.2.2 k e2 (by omega)
      have cr := zS_cross0 (d := d + 1) (σ := (S, I, R, T)) (a := I V (14 + 3 * k)) (b := I V (15 + 3 * k)) (x := a) (y := b) (Or.inr k3) k2 hab
      have s43 : zi_run zt_143 (zG (d + 2)) (w' + 1) 43 [some (.inr (.inr V)), some (.inl F), some (.inl a), some (.inl b), none, some (.inl k)] [] (S, I, R, T) = some (0, (S, I, R, T)) := by
        rw [zk_143_43]
        ((try simp only [zbd_conv]); simp (disch := first | assumption | omega | trivial) only [↓reduceIte, zbd_sm, eq_self, Int.reduceEq, Int.reduceLT, Int.reduceLE, and_self, or_true, true_or, or_false, false_or, if_pos, if_neg, if_true, if_false, true_and, and_true, not_true_eq_false, not_false_eq_true, false_and, and_false, zq_t, zq_f, zq0, zq1, zw_id, hs, cr])
        exact ih (k + 1) w' (by omega) (by omega) (by omega)
      rw [zk_143_6]
      ((try simp only [zbd_conv]); simp (disch := first | assumption | omega | trivial) only [↓reduceIte, zbd_sm, eq_self, Int.reduceEq, Int.reduceLT, Int.reduceLE, and_self, or_true, true_or, or_false, false_or, if_pos, if_neg, if_true, if_false, true_and, and_true, not_true_eq_false, not_false_eq_true, false_and, and_false, zq_t, zq_f, zq0, zq1, zw_id, hs])
      exact s43
  rw [zm_143]
  exact key F.toNat 0 1019999 (by omega) (by omega) (by omega)
theorem zx_Lcomes (hs : S V = (12, 40)) (h : zVv I V N F a) (hF : 0 ≤ F ∧ F ≤ 7) (hab : 0 ≤ a ∧ a < b) : ∃ J, zG (d + 3) 144 [.inr (.inr V), .inl a, .inl b] (S, I, R, T) = some (F, (S, J, R, T)) ∧ (∀ q, q ≠ V → J q = I q) ∧ zVv J V N (F + 1) (b + 1) := by
  obtain ⟨J3, hJ3⟩ : ∃ J3, J3 = zi_up (zi_up (zi_up I V (14 + 3 * F) a) V (15 + 3 * F) b) V (16 + 3 * F) 0 := ⟨_, rfl⟩
  have j13 : J3 V 13 = F := by rw [hJ3, zu_ne (by omega), zu_ne (by omega), zu_ne (by omega), h.2.1]
  have s88 : ∀ w', zi_run zt_144 (zG (d + 2)) (w' + 1) 88 [some (.inr (.inr V)), some (.inl a), some (.inl b), some (.inl F), none] [] (S, I, R, T) = some (F, (S, zi_up J3 V 13 (F + 1), R, T)) := fun w' => by
    rw [zk_144_88]
    ((try simp only [zbd_conv]); simp (disch := first | assumption | omega | trivial) only [↓reduceIte, zbd_sm, eq_self, Int.reduceEq, Int.reduceLT, Int.reduceLE, and_self, or_true, true_or, or_false, false_or, if_pos, if_neg, if_true, if_false, true_and, and_true, not_true_eq_false, not_false_eq_true, false_and, and_false, zq_t, zq_f, zq0, zq1, zw_id, hs, zwr, ← hJ3, j13])
  have s5 : ∀ w', zi_run zt_144 (zG (d + 2)) (w' + 1 + 1) 5 [some (.inr (.inr V)), some (.inl a), some (.inl b), some (.inl F), none] [] (S, I, R, T) = some (F, (S, zi_up J3 V 13 (F + 1), R, T)) := fun w' => by
    rw [zk_144_5]
    by_cases g : 0 < F
    · obtain ⟨⟨k1, k2⟩, k3⟩ := h.2.2 (F - 1) (by omega) (by omega)
      rw [show 14 + 3 * (F - 1) = 11 + 3 * F by omega] at k1 k2
      ((try simp only [zbd_conv]); simp (disch := first | assumption | omega | trivial) only [↓reduceIte, zbd_sm, eq_self, Int.reduceEq, Int.reduceLT, Int.reduceLE, and_self, or_true, true_or, or_false, false_or, if_pos, if_neg, if_true, if_false, true_and, and_true, not_true_eq_false, not_false_eq_true, false_and, and_false, zq_t, zq_f, zq0, zq1, zw_id, hs])
      exact s88 w'
    · ((try simp only [zbd_conv]); simp (disch := first | assumption | omega | trivial) only [↓reduceIte, zbd_sm, eq_self, Int.reduceEq, Int.reduceLT, Int.reduceLE, and_self, or_true, true_or, or_false, false_or, if_pos, if_neg, if_true, if_false, true_and, and_true, not_true_eq_false, not_false_eq_true, false_and, and_false, zq_t, zq_f, zq0, zq1, zw_id, hs])
      exact s88 w'
  refine ⟨zi_up J3 V 13 (F + 1), ?_, fun q hq => by rw [zu_off hq, hJ3, zu_off hq, zu_off hq, zu_off hq], ⟨?_, zu_eq ⟨rfl, rfl⟩, fun k k1 k2 => ?_⟩⟩
  · have e13 := h.2.1
    rw [zm_144]
    ((try simp only [zbd_conv]); simp (disch := first | assumption | omega | trivial) only [↓reduceIte, zbd_sm, eq_self, Int.reduceEq, Int.reduceLT, Int.reduceLE, and_self, or_true, true_or, or_false, false_or, if_pos, if_neg, if_true, if_false, true_and, and_true, not_true_eq_false, not_false_eq_true, false_and, and_false, zq_t, zq_f, zq0, zq1, zw_id, hs, e13])
    exact s5 1019997
  · rw [zu_ne (by omega), hJ3, zu_ne (by omega), zu_ne (by omega), zu_ne (by omega), h.1]
  · rw [zu_ne (by omega), zu_ne (by omega), hJ3]
    by_cases g : k = F
    · subst g
      rw [zu_ne (by omega), zu_ne (by omega), zu_eq ⟨rfl, rfl⟩, zu_ne (by omega), zu_eq ⟨rfl, rfl⟩]
      omega
    · rw [zu_ne (by omega), zu_ne (by omega), zu_ne (by omega), zu_ne (by omega), zu_ne (by omega), zu_ne (by omega)]
      have := h.2.2 k k1 (by omega)
      omega
/-- a run of tell that ends well -/
def zR1 (S : zS) (X : Int) (T : Int × Nat) (r : zR) : Prop := ∃ J R', r = some (1, (S, J, R', T)) ∧ zA_ex S J R' X
theorem zR1_of {r r' : zR} (h : zR1 S X T r) (e : r' = r) : zR1 S X T r' := by
  rw [e]
  exact h
/-- ahead of line l -/
def zHd (S : zS) (I R : zI) (X V N l o c F : Int) (q : zT4) : Prop := zA_ex S I R X ∧ (zW I X c q ∧ c ≤ 31 * l) ∧ ((l = 0 ∧ c = 0 ∧ o = -1) ∨ (1 ≤ l ∧ ∃ i, zZl q (l - 1) i o (if o < 0 then l else o))) ∧ (o = -1 ∨ (0 ≤ o ∧ o < l ∧ l < N)) ∧ zVv I V N F (if o < 0 then l else o) ∧ 0 ≤ F ∧ F ≤ l
/-- in line l -/
def zMd (S : zS) (I R : zI) (X V N l i o c F : Int) (q : zT4) : Prop := zA_ex S I R X ∧ (zW I X c q ∧ c ≤ 31 * l + 2 + i) ∧ zZl q l i o (if o < 0 then l else o) ∧ (o = -1 ∨ (0 ≤ o ∧ o < l) ∨ (o = l ∧ l + 1 < N)) ∧ zVv I V N F (if o < 0 then l else o) ∧ 0 ≤ F ∧ F ≤ l
theorem zZl_mono (h : zZl q l i o b) (hb : b ≤ c) : zZl q l i o c := ⟨h.1, h.2.1, h.2.2.1, fun k k1 k2 => by have := h.2.2.2 k k1 k2; omega⟩
/-- a sign more -/
theorem zMd_sign (h : zMd S I R X V N l i o c F q) (hl : 0 ≤ l ∧ l ≤ 6) (hi : 0 ≤ i ∧ i < 29) (hz : X + 300 ≤ Z ∧ X + 300 ≤ V ∧ Z ≠ V) (hJ : ∀ q, q ≠ Z → J q = I q) (hb : zf_sign b) (hb2 : 0 ≤ b ∧ b ≤ 127) : zG (d + 10) 99 [.inr (.inr X), .inl b] (S, J, R, T) = some (c + 1, (S, zp_fd J X c b, R, T)) ∧ 0 < c + 1 ∧ c + 1 ≤ 400 ∧ zMd S (zp_fd J X c b) R X V N l (i + 1) o (c + 1) F (zt_byte b q).2 ∧ zp_fd J X c b V = I V := by
  obtain ⟨h1, ⟨h2, h3⟩, h4, h5, h6, h7⟩ := h
  have wj : zW J X c q := zW_I h2 (hJ _ (by omega)) (hJ _ (by omega))
  obtain ⟨b1, b2⟩ := zZl_sign (zW_text h2) h4 hb (by omega)
  have cc := h2.2.1
  have aj : zA_ex S J R X := zA_exT h1 (fun q q1 q2 _ _ => hJ q (by omega))
  have ve : zp_fd J X c b V = I V := by rw [zp_fd_off (by omega) (by omega), hJ _ (by omega)]
  refine ⟨zA_feed (zA_exc aj) wj (by omega) hb2, by omega, by omega, ⟨zA_exT aj (fun q q1 q2 q3 q4 => zp_fd_off q3 q4), ⟨zW_feed wj (by omega) b1, by omega⟩, b2, h5, zVv_I h6 ve, h7⟩, ve⟩
/-- behind the signs of a line, a fold is ended -/
theorem zU_348 (hl : 0 ≤ l ∧ l < N ∧ N ≤ 7) (hz : X + 300 ≤ Z ∧ X + 300 ≤ V ∧ Z ≠ V) (hv : S V = (12, 40)) {W : Nat} (hk : ∀ (o c F : Int) (q : zT4) (I : zI) (w' : Nat), zHd S I R X V N (l + 1) o c F q → W ≤ w' → zR1 S X T (zi_run zt_145 (zG (d + 10)) w' 68 [some (.inr (.inr X)), some (.inr (.inr Z)), some (.inr (.inr V)), some (.inr (.inr s0)), some (.inl 5), some (.inl o), some (.inl 1), some (.inl (l + 1)), none, none, none, none] [] (S, I, R, T))) (h : zMd S I R X V N l i o c F q) (hi : 0 ≤ i ∧ i < 29) (ho : 0 ≤ o ∧ o < l) {w' : Nat} (hw : W + 1 ≤ w') : zR1 S X T (zi_run zt_145 (zG (d + 10)) w' 348 [some (.inr (.inr X)), some (.inr (.inr Z)), some (.inr (.inr V)), some (.inr (.inr s0)), some (.inl 5), some (.inl o), some (.inl 1), some (.inl l), none, none, none, none] [.inl 1] (S, I, R, T)) := by
  obtain ⟨w', rfl⟩ : ∃ w'', w' = w'' + 1 := ⟨w' - 1, by omega⟩
  obtain ⟨h1, ⟨h2, h3⟩, h4, h5, h6, h7⟩ := h
  rw [if_neg (by omega)] at h4 h6
  obtain ⟨J, c1, c2, c3⟩ := zx_Lcomes (d := d + 7) (R := R) (T := T) hv h6 (by omega) (b := l) ho
  have cc := h2.2.1
  have wj : zW J X c q := zW_I h2 (c2 _ (by omega)) (c2 _ (by omega))
  have aj : zA_ex S J R X := zA_exT h1 (fun q q1 q2 _ _ => c2 q (by omega))
  obtain ⟨b1, b2⟩ := zZl_close (zW_text h2) h4 ho
  have fd := zA_feed (d := d) (T := T) (b := 93) (zA_exc aj) wj (by omega) (by omega)
  have x1 := zcl_x1 (zA_exc h1)
  refine zR1_of (hk (-1) (c + 1) (F + 1) _ (zp_fd J X c 93) w' ⟨zA_exT aj (fun q q1 q2 q3 q4 => zp_fd_off q3 q4), ⟨zW_feed wj (by omega) b1, by omega⟩, Or.inr ⟨by omega, i, ?_⟩, Or.inl rfl, ?_, by omega, by omega⟩ (by omega)) ?_
  · rw [if_pos (by omega), show l + 1 - 1 = l by omega]
    exact b2
  · rw [if_pos (by omega)]
    exact zVv_I c3 (by rw [zp_fd_off (by omega) (by omega)])
  · rw [zk_145_348]
    ((try simp only [zbd_conv]); simp (disch := first | assumption | omega | trivial) only [↓reduceIte, zbd_sm, eq_self, Int.reduceEq, Int.reduceLT, Int.reduceLE, and_self, or_true, true_or, or_false, false_or, if_pos, if_neg, if_true, if_false, true_and, and_true, not_true_eq_false, not_false_eq_true, false_and, and_false, zq_t, zq_f, zq0, zq1, zw_id, c1, x1, fd])
/-- the signs of a line -/
theorem zU_210 (hl : 0 ≤ l ∧ l < N ∧ N ≤ 7) (hz : X + 300 ≤ Z ∧ X + 300 ≤ V ∧ Z ≠ V) (hv : S V = (12, 40)) (hZ : S Z = (19, 60)) (hs : S s0 = (18, L)) (hL : 0 ≤ L ∧ L ≤ 260) {W : Nat} (hk : ∀ (o c F : Int) (q : zT4) (I : zI) (w' : Nat), zHd S I R X V N (l + 1) o c F q → W ≤ w' → zR1 S X T (zi_run zt_145 (zG (d + 10)) w' 68 [some (.inr (.inr X)), some (.inr (.inr Z)), some (.inr (.inr V)), some (.inr (.inr s0)), some (.inl 5), some (.inl o), some (.inl 1), some (.inl (l + 1)), none, none, none, none] [] (S, I, R, T))) (hn : 0 ≤ n ∧ n < 29) (hx : 0 ≤ y ∧ y < 5) : ∀ (u : Nat) (i c : Int) (q : zT4) (I : zI) (w' : Nat), (u : Int) + i = n → 0 ≤ i → zMd S I R X V N l i o c F q → I V l = n → W + u + 3 ≤ w' → zR1 S X T (zi_run zt_145 (zG (d + 10)) w' 210 [some (.inr (.inr X)), some (.inr (.inr Z)), some (.inr (.inr V)), some (.inr (.inr s0)), some (.inl 5), some (.inl o), some (.inl 1), some (.inl l), some (.inl x), some (.inl y), some (.inl i), none] [] (S, I, R, T)) := by
  intro u
  induction u with
  | zero =>
    intro i c q I w' e1 e2 h e3 e4
    obtain ⟨w', rfl⟩ : ∃ w'', w' = w'' + 1 := ⟨w' - 1, by omega⟩
    have hm := h
    obtain ⟨h1, ⟨h2, h3⟩, h4, h5, h6, h7, h8⟩ := h
    have cc := h2.2.1
    have e12 := h6.1
    have e13 := h6.2.1
    by_cases g : o < 0
    · rw [if_pos g] at h4 h6
      refine zR1_of (hk o c F q I w' ⟨h1, ⟨h2, by omega⟩, Or.inr ⟨by omega, i, ?_⟩, Or.inl (by omega), ?_, h7, by omega⟩ (by omega)) ?_
      · rw [if_pos g, show l + 1 - 1 = l by omega]
        exact zZl_mono h4 (by omega)
      · rw [if_pos g]
        exact zVv_mono h6 (by omega)
      · rw [zk_145_210]
        ((try simp only [zbd_conv]); simp (disch := first | assumption | omega | trivial) only [↓reduceIte, zbd_sm, eq_self, Int.reduceEq, Int.reduceLT, Int.reduceLE, and_self, or_true, true_or, or_false, false_or, if_pos, if_neg, if_true, if_false, true_and, and_true, not_true_eq_false, not_false_eq_true, false_and, and_false, zq_t, zq_f, zq0, zq1, zw_id, hv, e3])
    · rw [if_neg g] at h4 h6
      have stay : l + 1 < N → zR1 S X T (zi_run zt_145 (zG (d + 10)) w' 68 [some (.inr (.inr X)), some (.inr (.inr Z)), some (.inr (.inr V)), some (.inr (.inr s0)), some (.inl 5), some (.inl o), some (.inl 1), some (.inl (l + 1)), none, none, none, none] [] (S, I, R, T)) := fun gl => by
        refine hk o c F q I w' ⟨h1, ⟨h2, by omega⟩, Or.inr ⟨by omega, i, ?_⟩, Or.inr ⟨by omega, by omega, gl⟩, ?_, h7, by omega⟩ (by omega)
        · rw [if_neg g, show l + 1 - 1 = l by omega]
          exact h4
        · rw [if_neg g]
          exact h6
      by_cases gl : o < l
      · have cl := zx_Lclashes (d := d + 7) (R := R) (T := T) hv h6 (by omega) gl
        have fin := zU_348 (d := d) (T := T) (s0 := s0) hl hz hv hk hm (by omega) ⟨by omega, gl⟩ (w' := w') (by omega)
        by_cases gN : l + 1 = N
        · refine zR1_of fin ?_
          rw [zk_145_210]
          ((try simp only [zbd_conv]); simp (disch := first | assumption | omega | trivial) only [↓reduceIte, zbd_sm, eq_self, Int.reduceEq, Int.reduceLT, Int.reduceLE, and_self, or_true, true_or, or_false, false_or, if_pos, if_neg, if_true, if_false, true_and, and_true, not_true_eq_false, not_false_eq_true, false_and, and_false, zq_t, zq_f, zq0, zq1, zw_id, hv, e3, e12, e13, cl])
        · have p := zx_part (d := d + 9) (v := zi_shr x 9) (n := 2) (σ := (S, I, R, T)) (by omega)
          by_cases gp : zQ (zi_shr x 9) 2 = 0
          · refine zR1_of fin ?_
            rw [zk_145_210]
            ((try simp only [zbd_conv]); simp (disch := first | assumption | omega | trivial) only [↓reduceIte, zbd_sm, eq_self, Int.reduceEq, Int.reduceLT, Int.reduceLE, and_self, or_true, true_or, or_false, false_or, if_pos, if_neg, if_true, if_false, true_and, and_true, not_true_eq_false, not_false_eq_true, false_and, and_false, zq_t, zq_f, zq0, zq1, zw_id, hv, e3, e12, e13, p, gp, cl])
          · refine zR1_of (stay (by omega)) ?_
            rw [zk_145_210]
            ((try simp only [zbd_conv]); simp (disch := first | assumption | omega | trivial) only [↓reduceIte, zbd_sm, eq_self, Int.reduceEq, Int.reduceLT, Int.reduceLE, and_self, or_true, true_or, or_false, false_or, if_pos, if_neg, if_true, if_false, true_and, and_true, not_true_eq_false, not_false_eq_true, false_and, and_false, zq_t, zq_f, zq0, zq1, zw_id, hv, e3, e12, e13, p, gp])
      · refine zR1_of (stay (by omega)) ?_
        rw [zk_145_210]
        ((try simp only [zbd_conv]); simp (disch := first | assumption | omega | trivial) only [↓reduceIte, zbd_sm, eq_self, Int.reduceEq, Int.reduceLT, Int.reduceLE, and_self, or_true, true_or, or_false, false_or, if_pos, if_neg, if_true, if_false, true_and, and_true, not_true_eq_false, not_false_eq_true, false_and, and_false, zq_t, zq_f, zq0, zq1, zw_id, hv, e3])
  | succ u ih =>
    intro i c q I w' e1 e2 h e3 e4
    obtain ⟨w', rfl⟩ : ∃ w'', w' = w'' + 1 := ⟨w' - 1, by omega⟩
    have x1 := zcl_x1 (zA_exc h.1)
    by_cases g : i < y - 1
    · obtain ⟨J, p1, p2⟩ := zx_Lput (d := d + 9) (I := I) (R := R) (T := T) (c := 32) hZ (l := l) (by omega) (i := i) (by omega)
      obtain ⟨f1, f2, f3, f4, f5⟩ := zMd_sign (d := d) (T := T) (b := 32) h (by omega) (by omega) hz p2 (by unfold zf_sign; omega) (by omega)
      refine zR1_of (ih (i + 1) (c + 1) _ (zp_fd J X c 32) w' (by omega) (by omega) f4 (by rw [f5]; exact e3) (by omega)) ?_
      rw [zk_145_210]
      ((try simp only [zbd_conv]); simp (disch := first | assumption | omega | trivial) only [↓reduceIte, zbd_sm, eq_self, Int.reduceEq, Int.reduceLT, Int.reduceLE, and_self, or_true, true_or, or_false, false_or, if_pos, if_neg, if_true, if_false, true_and, and_true, not_true_eq_false, not_false_eq_true, false_and, and_false, zq_t, zq_f, zq0, zq1, zw_id, hv, e3, p1, x1, f1])
    · obtain ⟨v, v1⟩ := zx_Lcell (d := d + 9) (I := I) (R := R) (T := T) (x := 13 + 15 * l + i) hs hL (by omega)
      obtain ⟨b, b1, b2, b3⟩ := zx_LsignOf (d := d + 8) (x := v) (σ := (S, I, R, T))
      obtain ⟨J, p1, p2⟩ := zx_Lput (d := d + 9) (I := I) (R := R) (T := T) (c := b) hZ (l := l) (by omega) (i := i) (by omega)
      obtain ⟨f1, f2, f3, f4, f5⟩ := zMd_sign (d := d) (T := T) (b := b) h (by omega) (by omega) hz p2 b2 b3
      refine zR1_of (ih (i + 1) (c + 1) _ (zp_fd J X c b) w' (by omega) (by omega) f4 (by rw [f5]; exact e3) (by omega)) ?_
      rw [zk_145_210]
      ((try simp only [zbd_conv]); simp (disch := first | assumption | omega | trivial) only [↓reduceIte, zbd_sm, eq_self, Int.reduceEq, Int.reduceLT, Int.reduceLE, and_self, or_true, true_or, or_false, false_or, if_pos, if_neg, if_true, if_false, true_and, and_true, not_true_eq_false, not_false_eq_true, false_and, and_false, zq_t, zq_f, zq0, zq1, zw_id, hv, e3, Int.reduceAdd, v1, b1, p1, x1, f1])
/-- how long the line is -/
theorem zU_166 (hl : 0 ≤ l ∧ l < N ∧ N ≤ 7) (hz : X + 300 ≤ Z ∧ X + 300 ≤ V ∧ Z ≠ V) (hv : S V = (12, 40)) (hZ : S Z = (19, 60)) (hs : S s0 = (18, L)) (hL : 0 ≤ L ∧ L ≤ 260) {W : Nat} (hk : ∀ (o c F : Int) (q : zT4) (I : zI) (w' : Nat), zHd S I R X V N (l + 1) o c F q → W ≤ w' → zR1 S X T (zi_run zt_145 (zG (d + 10)) w' 68 [some (.inr (.inr X)), some (.inr (.inr Z)), some (.inr (.inr V)), some (.inr (.inr s0)), some (.inl 5), some (.inl o), some (.inl 1), some (.inl (l + 1)), none, none, none, none] [] (S, I, R, T))) (h : zMd S I R X V N l 0 o c F q) {w' : Nat} (hw : W + 33 ≤ w') : zR1 S X T (zi_run zt_145 (zG (d + 10)) w' 166 [some (.inr (.inr X)), some (.inr (.inr Z)), some (.inr (.inr V)), some (.inr (.inr s0)), some (.inl 5), some (.inl o), some (.inl 1), some (.inl l), some (.inl x), none, none, none] [] (S, I, R, T)) := by
  obtain ⟨w', rfl⟩ : ∃ w'', w' = w'' + 1 := ⟨w' - 1, by omega⟩
  have pt : ∀ (I : zI) v n, n ≠ 0 → zG (d + 10) 138 [.inl v, .inl n] (S, I, R, T) = some (zQ v n, (S, I, R, T)) := fun I v n hn => zx_part (d := d + 9) hn
  have bh := zQ_b (v := zi_shr x 7) (n := 5) (by omega)
  have p6 := pt I (zi_shr x 6) 3 (by omega)
  have go : ∀ n, 0 ≤ n → n < 29 → zR1 S X T (zi_run zt_145 (zG (d + 10)) w' 210 [some (.inr (.inr X)), some (.inr (.inr Z)), some (.inr (.inr V)), some (.inr (.inr s0)), some (.inl 5), some (.inl o), some (.inl 1), some (.inl l), some (.inl x), some (.inl (zQ (zi_shr x 7) 5)), some (.inl 0), none] [] (S, zi_up I V l n, R, T)) := fun n n1 n2 => by
    obtain ⟨h1, ⟨h2, h3⟩, h4, h5, h6, h7⟩ := h
    refine zU_210 (d := d) (L := L) hl hz hv hZ hs hL hk (n := n) ⟨n1, n2⟩ bh n.toNat 0 c q _ w' (by omega) (by omega) ⟨zA_exT h1 (fun q q1 q2 _ _ => zu_off (by omega)), ⟨zW_I h2 (zu_off (by omega)) (zu_off (by omega)), h3⟩, h4, h5, ⟨?_, ?_, fun k k1 k2 => ?_⟩, h7⟩ (zu_eq ⟨rfl, rfl⟩) (by omega)
    · rw [zu_ne (by omega)]; exact h6.1
    · rw [zu_ne (by omega)]; exact h6.2.1
    · rw [zu_ne (by omega), zu_ne (by omega)]; exact h6.2.2 k k1 k2
  by_cases g : zQ (zi_shr x 6) 3 = 0
  · have b2 := zQ_b (v := zi_shr x 2) (n := 29) (by omega)
    have p2 := pt I (zi_shr x 2) 29 (by omega)
    have p7 := pt (zi_up I V l (zQ (zi_shr x 2) 29)) (zi_shr x 7) 5 (by omega)
    refine zR1_of (go _ b2.1 b2.2) ?_
    rw [zk_145_166]
    ((try simp only [zbd_conv]); simp (disch := first | assumption | omega | trivial) only [↓reduceIte, zbd_sm, eq_self, Int.reduceEq, Int.reduceLT, Int.reduceLE, and_self, or_true, true_or, or_false, false_or, if_pos, if_neg, if_true, if_false, true_and, and_true, not_true_eq_false, not_false_eq_true, false_and, and_false, zq_t, zq_f, zq0, zq1, zw_id, p6, g, p2, hv, zwr, p7])
  · have b2 := zQ_b (v := zi_shr x 2) (n := 15) (by omega)
    have p2 := pt I (zi_shr x 2) 15 (by omega)
    have p7 := pt (zi_up I V l (zQ (zi_shr x 2) 15)) (zi_shr x 7) 5 (by omega)
    refine zR1_of (go _ b2.1 (by omega)) ?_
    rw [zk_145_166]
    ((try simp only [zbd_conv]); simp (disch := first | assumption | omega | trivial) only [↓reduceIte, zbd_sm, eq_self, Int.reduceEq, Int.reduceLT, Int.reduceLE, and_self, or_true, true_or, or_false, false_or, if_pos, if_neg, if_true, if_false, true_and, and_true, not_true_eq_false, not_false_eq_true, false_and, and_false, zq_t, zq_f, zq0, zq1, zw_id, p6, g, p2, hv, zwr, p7])
/-- whether a fold begins -/
theorem zU_116 (hl : 0 ≤ l ∧ l < N ∧ N ≤ 7) (hz : X + 300 ≤ Z ∧ X + 300 ≤ V ∧ Z ≠ V) (hv : S V = (12, 40)) (hZ : S Z = (19, 60)) (hs : S s0 = (18, L)) (hL : 0 ≤ L ∧ L ≤ 260) {W : Nat} (hk : ∀ (o c F : Int) (q : zT4) (I : zI) (w' : Nat), zHd S I R X V N (l + 1) o c F q → W ≤ w' → zR1 S X T (zi_run zt_145 (zG (d + 10)) w' 68 [some (.inr (.inr X)), some (.inr (.inr Z)), some (.inr (.inr V)), some (.inr (.inr s0)), some (.inl 5), some (.inl o), some (.inl 1), some (.inl (l + 1)), none, none, none, none] [] (S, I, R, T))) (h1 : zA_ex S I R X) (h2 : zW I X c q) (h3 : c ≤ 31 * l + 1) (h4 : zZl q l 0 o (if o < 0 then l else o)) (h4n : q.2.2.2 ≤ l) (h5 : o = -1 ∨ (0 ≤ o ∧ o < l)) (h6 : zVv I V N F (if o < 0 then l else o)) (h7 : 0 ≤ F ∧ F ≤ l) {w' : Nat} (hw : W + 34 ≤ w') : zR1 S X T (zi_run zt_145 (zG (d + 10)) w' 116 [some (.inr (.inr X)), some (.inr (.inr Z)), some (.inr (.inr V)), some (.inr (.inr s0)), some (.inl 5), some (.inl o), some (.inl 1), some (.inl l), some (.inl x), none, none, none] [] (S, I, R, T)) := by
  obtain ⟨w', rfl⟩ : ∃ w'', w' = w'' + 1 := ⟨w' - 1, by omega⟩
  have x1 := zcl_x1 (zA_exc h1)
  have e12 := h6.1
  have cc := h2.2.1
  have go : ∀ (o c : Int) (q : zT4) (I : zI), zMd S I R X V N l 0 o c F q → zR1 S X T (zi_run zt_145 (zG (d + 10)) w' 166 [some (.inr (.inr X)), some (.inr (.inr Z)), some (.inr (.inr V)), some (.inr (.inr s0)), some (.inl 5), some (.inl o), some (.inl 1), some (.inl l), some (.inl x), none, none, none] [] (S, I, R, T)) := fun o c q I h => zU_166 (d := d) (L := L) hl hz hv hZ hs hL hk h (by omega)
  have same : zMd S I R X V N l 0 o c F q := ⟨h1, ⟨h2, by omega⟩, h4, h5.imp id Or.inl, h6, h7⟩
  by_cases g : o < 0
  · have ho : o = -1 := by omega
    have p3 := zx_part (d := d + 9) (v := x) (n := 3) (σ := (S, I, R, T)) (by omega)
    by_cases gp : zQ x 3 = 0
    · by_cases gl : l + 1 < N
      · subst ho
        rw [if_pos g] at h4 h6
        obtain ⟨b1, b2⟩ := zZl_open (zW_text h2) h4 h4n (by omega)
        have fd := zA_feed (d := d) (T := T) (b := 91) (zA_exc h1) h2 (by omega) (by omega)
        refine zR1_of (go l (c + 1) _ (zp_fd I X c 91) ⟨zA_exT h1 (fun q q1 q2 q3 q4 => zp_fd_off q3 q4), ⟨zW_feed h2 (by omega) b1, by omega⟩, ?_, Or.inr (Or.inr ⟨rfl, gl⟩), ?_, h7⟩) ?_
        · rw [if_neg (by omega)]; exact b2
        · rw [if_neg (by omega)]
          exact zVv_I h6 (by rw [zp_fd_off (by omega) (by omega)])
        · rw [zk_145_116]
          ((try simp only [zbd_conv]); simp (disch := first | assumption | omega | trivial) only [↓reduceIte, zbd_sm, eq_self, Int.reduceEq, Int.reduceLT, Int.reduceLE, and_self, or_true, true_or, or_false, false_or, if_pos, if_neg, if_true, if_false, true_and, and_true, not_true_eq_false, not_false_eq_true, false_and, and_false, zq_t, zq_f, zq0, zq1, zw_id, p3, gp, hv, e12, x1, fd])
      · refine zR1_of (go o c q I same) ?_
        rw [zk_145_116]
        ((try simp only [zbd_conv]); simp (disch := first | assumption | omega | trivial) only [↓reduceIte, zbd_sm, eq_self, Int.reduceEq, Int.reduceLT, Int.reduceLE, and_self, or_true, true_or, or_false, false_or, if_pos, if_neg, if_true, if_false, true_and, and_true, not_true_eq_false, not_false_eq_true, false_and, and_false, zq_t, zq_f, zq0, zq1, zw_id, p3, gp, hv, e12])
    · refine zR1_of (go o c q I same) ?_
      rw [zk_145_116]
      ((try simp only [zbd_conv]); simp (disch := first | assumption | omega | trivial) only [↓reduceIte, zbd_sm, eq_self, Int.reduceEq, Int.reduceLT, Int.reduceLE, and_self, or_true, true_or, or_false, false_or, if_pos, if_neg, if_true, if_false, true_and, and_true, not_true_eq_false, not_false_eq_true, false_and, and_false, zq_t, zq_f, zq0, zq1, zw_id, p3, gp])
  · refine zR1_of (go o c q I same) ?_
    rw [zk_145_116]
    ((try simp only [zbd_conv]); simp (disch := first | assumption | omega | trivial) only [↓reduceIte, zbd_sm, eq_self, Int.reduceEq, Int.reduceLT, Int.reduceLE, and_self, or_true, true_or, or_false, false_or, if_pos, if_neg, if_true, if_false, true_and, and_true, not_true_eq_false, not_false_eq_true, false_and, and_false, zq_t, zq_f, zq0, zq1, zw_id])
/-- the lines -/
theorem zU_68 (hN : 1 ≤ N ∧ N ≤ 7) (hz : X + 300 ≤ Z ∧ X + 300 ≤ V ∧ Z ≠ V) (hv : S V = (12, 40)) (hZ : S Z = (19, 60)) (hs : S s0 = (18, L)) (hL : 0 ≤ L ∧ L ≤ 260) : ∀ (u : Nat) (l o c F : Int) (q : zT4) (I : zI) (w' : Nat), (u : Int) + l = N → 0 ≤ l → zHd S I R X V N l o c F q → 36 * u + 1 ≤ w' → zR1 S X T (zi_run zt_145 (zG (d + 10)) w' 68 [some (.inr (.inr X)), some (.inr (.inr Z)), some (.inr (.inr V)), some (.inr (.inr s0)), some (.inl 5), some (.inl o), some (.inl 1), some (.inl l), none, none, none, none] [] (S, I, R, T)) := by
  intro u
  induction u with
  | zero =>
    intro l o c F q I w' e1 e2 h e3
    obtain ⟨w', rfl⟩ : ∃ w'', w' = w'' + 1 := ⟨w' - 1, by omega⟩
    obtain ⟨h1, ⟨h2, h3⟩, h4, h5, h6, h7⟩ := h
    have x1 := zcl_x1 (zA_exc h1)
    have e12 := h6.1
    have ho : o = -1 := by omega
    obtain ⟨-, i, z1, z2, -⟩ := h4.resolve_left (fun z => by omega)
    obtain ⟨J, R', t1, t2, t3, t4, t5⟩ := zA_text (d := d) (T := T) h1 h2 (by omega)
    have tx : q.1 0 = N := by omega
    rw [tx] at t1
    have ft := zA_fault (d := d) (I := J) (T := T) (zA_exc t2)
    rw [t3] at ft
    have ru := zA_rule12 (d := d) (I := J) (T := T) (zA_exc t2)
    rw [t4] at ru
    have jv : J V = I V := t5 V (by omega)
    have j12 : J V 12 = N := by rw [jv]; exact e12
    refine ⟨J, R', ?_, t2⟩
    rw [zk_145_68]
    ((try simp only [zbd_conv]); simp (disch := first | assumption | omega | trivial) only [↓reduceIte, zbd_sm, eq_self, Int.reduceEq, Int.reduceLT, Int.reduceLE, and_self, or_true, true_or, or_false, false_or, if_pos, if_neg, if_true, if_false, true_and, and_true, not_true_eq_false, not_false_eq_true, false_and, and_false, zq_t, zq_f, zq0, zq1, zw_id, hv, e12, x1, t1, j12, ft, ru])
  | succ u ih =>
    intro l o c F q I w' e1 e2 h e3
    rw [Nat.mul_succ] at e3
    generalize 36 * u = z36 at ih e3
    obtain ⟨w', rfl⟩ : ∃ w'', w' = w'' + 1 := ⟨w' - 1, by omega⟩
    obtain ⟨h1, ⟨h2, h3⟩, h4, h5, h6, h7⟩ := h
    have x1 := zcl_x1 (zA_exc h1)
    have e12 := h6.1
    have cc := h2.2.1
    obtain ⟨v, v1⟩ := zx_Lcell (d := d + 9) (I := I) (R := R) (T := T) (x := 6 + l) hs hL (by omega)
    have go := fun (c : Int) (q : zT4) (I : zI) (a1 : zA_ex S I R X) (a2 : zW I X c q) (a3 : c ≤ 31 * l + 1) (a4 : zZl q l 0 o (if o < 0 then l else o)) (a5 : q.2.2.2 ≤ l) (a6 : zVv I V N F (if o < 0 then l else o)) => zU_116 (d := d) (L := L) (x := v) (W := z36 + 1) (w' := w') (T := T) (by omega) hz hv hZ hs hL (fun o c F q I w'' hh hw => ih (l + 1) o c F q I w'' (by omega) (by omega) hh hw) a1 a2 a3 a4 a5 (h5.imp id (fun z => ⟨z.1, z.2.1⟩)) a6 h7 (by omega)
    by_cases g : 0 < l
    · obtain ⟨-, i, z1⟩ := h4.resolve_left (fun z => by omega)
      obtain ⟨b1, b2, b3⟩ := zZl_line (c := if o < 0 then l else o) (zW_text h2) z1 (by omega) (Int.le_refl _)
      rw [show l - 1 + 1 = l by omega] at b2 b3
      have fd := zA_feed (d := d) (T := T) (b := 10) (zA_exc h1) h2 (by omega) (by omega)
      refine zR1_of (go (c + 1) _ (zp_fd I X c 10) (zA_exT h1 (fun q q1 q2 q3 q4 => zp_fd_off q3 q4)) (zW_feed h2 (by omega) b1) (by omega) b2 b3 (zVv_I h6 (by rw [zp_fd_off (by omega) (by omega)]))) ?_
      rw [zk_145_68]
      ((try simp only [zbd_conv]); simp (disch := first | assumption | omega | trivial) only [↓reduceIte, zbd_sm, eq_self, Int.reduceEq, Int.reduceLT, Int.reduceLE, and_self, or_true, true_or, or_false, false_or, if_pos, if_neg, if_true, if_false, true_and, and_true, not_true_eq_false, not_false_eq_true, false_and, and_false, zq_t, zq_f, zq0, zq1, zw_id, hv, e12, Int.reduceAdd, v1, x1, fd])
    · obtain ⟨l0, c0, o0⟩ := h4.resolve_right (fun z => by omega)
      subst l0 c0 o0
      have hq : q = zt_zero := by
        rw [← h2.2.2.2]
        rfl
      have e0 : zt_zero.1 0 = 1 := (show (if (0 : Int) = 0 then (1 : Int) else 0) = 1 from if_pos rfl)
      have ej : ∀ j, j ≠ 0 → zt_zero.1 j = 0 := fun j hj => if_neg hj
      refine zR1_of (go 0 q I h1 h2 (by omega) ?_ ?_ h6) ?_
      · rw [hq]
        refine ⟨⟨by rw [e0]; omega, by rw [ej _ (by omega)]⟩, Or.inl ⟨rfl, rfl⟩, ?_, fun k k1 k2 => ?_⟩
        · show (0 : Int) ≤ 0 + 1
          omega
        · rw [ej 493 (by omega)] at k2
          omega
      · rw [hq]
        exact Int.le_refl _
      · rw [Int.add_zero] at v1
        rw [zk_145_68]
        ((try simp only [zbd_conv]); simp (disch := first | assumption | omega | trivial) only [↓reduceIte, zbd_sm, eq_self, Int.reduceEq, Int.reduceLT, Int.reduceLE, and_self, or_true, true_or, or_false, false_or, if_pos, if_neg, if_true, if_false, true_and, and_true, not_true_eq_false, not_false_eq_true, false_and, and_false, zq_t, zq_f, zq0, zq1, zw_id, hv, e12, Int.reduceAdd, Int.add_zero, v1])
/-- rows are emptied -/
theorem zU_24 (hz : X + 300 ≤ Z ∧ X + 300 ≤ V ∧ Z ≠ V) (hv : S V = (12, 40)) (hZ : S Z = (19, 60)) (hs : S s0 = (18, L)) (hL : 0 ≤ L ∧ L ≤ 260) : ∀ (u : Nat) (i : Int) (I : zI) (w' : Nat), (u : Int) + i = 40 → 0 ≤ i → zA_ex S I R X → I (X + 1) 2 = 0 → (∀ j, 0 ≤ j → j < i → I V j = 0) → 300 + u ≤ w' → zR1 S X T (zi_run zt_145 (zG (d + 10)) w' 24 [some (.inr (.inr X)), some (.inr (.inr Z)), some (.inr (.inr V)), some (.inr (.inr s0)), some (.inl 5), some (.inl i), none, none, none, none, none, none] [] (S, I, R, T)) := by
  intro u
  induction u with
  | zero =>
    intro i I w' e1 e2 h1 h2 h3 e3
    obtain ⟨w', rfl⟩ : ∃ w'', w' = w'' + 1 := ⟨w' - 1, by omega⟩
    obtain ⟨v, v1⟩ := zx_Lcell (d := d + 9) (I := I) (R := R) (T := T) (x := 5) hs hL (by omega)
    have p := zx_part (d := d + 9) (v := v) (n := 7) (σ := (S, I, R, T)) (by omega)
    have pb := zQ_b (v := v) (n := 7) (by omega)
    refine zR1_of (zU_68 (d := d) (L := L) (N := 1 + zQ v 7) (by omega) hz hv hZ hs hL (1 + zQ v 7).toNat 0 (-1) 0 0 zt_zero (zi_up I V 12 (1 + zQ v 7)) w' (by omega) (by omega) ⟨zA_exT h1 (fun q q1 q2 _ _ => zu_off (by omega)), ⟨⟨by rw [zu_off (by omega)]; exact h2, by omega, fun j hj => by omega, rfl⟩, by omega⟩, Or.inl ⟨rfl, rfl, rfl⟩, Or.inl rfl, ⟨zu_eq ⟨rfl, rfl⟩, by rw [zu_ne (by omega)]; exact h3 13 (by omega) (by omega), fun k k1 k2 => by omega⟩, by omega, by omega⟩ (by omega)) ?_
    rw [zk_145_24]
    ((try simp only [zbd_conv]); simp (disch := first | assumption | omega | trivial) only [↓reduceIte, zbd_sm, eq_self, Int.reduceEq, Int.reduceLT, Int.reduceLE, and_self, or_true, true_or, or_false, false_or, if_pos, if_neg, if_true, if_false, true_and, and_true, not_true_eq_false, not_false_eq_true, false_and, and_false, zq_t, zq_f, zq0, zq1, zw_id, v1, p, hv, zwr])
  | succ u ih =>
    intro i I w' e1 e2 h1 h2 h3 e3
    obtain ⟨w', rfl⟩ : ∃ w'', w' = w'' + 1 := ⟨w' - 1, by omega⟩
    refine zR1_of (ih (i + 1) (zi_up I V i 0) w' (by omega) (by omega) (zA_exT h1 (fun q q1 q2 _ _ => zu_off (by omega))) (by rw [zu_off (by omega)]; exact h2) (fun j j1 j2 => ?_) (by omega)) ?_
    · by_cases g : j = i
      · rw [zu_eq ⟨rfl, g⟩]
      · rw [zu_ne (by omega)]; exact h3 j j1 (by omega)
    · rw [zk_145_24]
      ((try simp only [zbd_conv]); simp (disch := first | assumption | omega | trivial) only [↓reduceIte, zbd_sm, eq_self, Int.reduceEq, Int.reduceLT, Int.reduceLE, and_self, or_true, true_or, or_false, false_or, if_pos, if_neg, if_true, if_false, true_and, and_true, not_true_eq_false, not_false_eq_true, false_and, and_false, zq_t, zq_f, zq0, zq1, zw_id, hv, zwr])
theorem zU_3 (hz : X + 300 ≤ Z ∧ X + 300 ≤ V ∧ Z ≠ V) (hv : S V = (12, 40)) (hZ : S Z = (19, 60)) (hs : S s0 = (18, L)) (hL : 0 ≤ L ∧ L ≤ 260) : ∀ (u : Nat) (i : Int) (I : zI) (w' : Nat), (u : Int) + i = 60 → 0 ≤ i → zA_ex S I R X → I (X + 1) 2 = 0 → 350 + u ≤ w' → zR1 S X T (zi_run zt_145 (zG (d + 10)) w' 3 [some (.inr (.inr X)), some (.inr (.inr Z)), some (.inr (.inr V)), some (.inr (.inr s0)), some (.inl 5), some (.inl i), none, none, none, none, none, none] [] (S, I, R, T)) := by
  intro u
  induction u with
  | zero =>
    intro i I w' e1 e2 h1 h2 e3
    obtain ⟨w', rfl⟩ : ∃ w'', w' = w'' + 1 := ⟨w' - 1, by omega⟩
    refine zR1_of (zU_24 (d := d) (L := L) hz hv hZ hs hL 40 0 I w' (by omega) (by omega) h1 h2 (fun j j1 j2 => by omega) (by omega)) ?_
    rw [zk_145_3]
    ((try simp only [zbd_conv]); simp (disch := first | assumption | omega | trivial) only [↓reduceIte, zbd_sm, eq_self, Int.reduceEq, Int.reduceLT, Int.reduceLE, and_self, or_true, true_or, or_false, false_or, if_pos, if_neg, if_true, if_false, true_and, and_true, not_true_eq_false, not_false_eq_true, false_and, and_false, zq_t, zq_f, zq0, zq1, zw_id])
  | succ u ih =>
    intro i I w' e1 e2 h1 h2 e3
    obtain ⟨w', rfl⟩ : ∃ w'', w' = w'' + 1 := ⟨w' - 1, by omega⟩
    refine zR1_of (ih (i + 1) (zi_up I Z i 0) w' (by omega) (by omega) (zA_exT h1 (fun q q1 q2 _ _ => zu_off (by omega))) (by rw [zu_off (by omega)]; exact h2) (by omega)) ?_
    rw [zk_145_3]
    ((try simp only [zbd_conv]); simp (disch := first | assumption | omega | trivial) only [↓reduceIte, zbd_sm, eq_self, Int.reduceEq, Int.reduceLT, Int.reduceLE, and_self, or_true, true_or, or_false, false_or, if_pos, if_neg, if_true, if_false, true_and, and_true, not_true_eq_false, not_false_eq_true, false_and, and_false, zq_t, zq_f, zq0, zq1, zw_id, hZ, zwr])
theorem zS_tell (hz : X + 300 ≤ Z ∧ X + 300 ≤ V ∧ Z ≠ V) (hv : S V = (12, 40)) (hZ : S Z = (19, 60)) (hs : S s0 = (18, L)) (hL : 0 ≤ L ∧ L ≤ 260) (h : zA_ex S I R X) (h0 : I (X + 1) 2 = 0) : ∃ J R', zG (d + 11) 145 [.inr (.inr X), .inr (.inr Z), .inr (.inr V), .inr (.inr s0), .inl 5] (S, I, R, T) = some (1, (S, J, R', T)) ∧ zA_ex S J R' X := by
  have := zU_3 (d := d) (L := L) (T := T) hz hv hZ hs hL 60 0 I 1019999 (by omega) (by omega) h h0 (by omega)
  rw [zm_145]
  exact this
end ZAg
