/-! the class: a line is laid -/
/-- r rows are laid; B tells where each begins, and where the next one does -/
def zl_inv (n w t m ind : Int) (s : Int → Int) (a : Int) (M : zI) (r : Int) (B : Int → Int) : Prop :=
  B 0 = 0 ∧ (∀ q, 0 ≤ q → q ≤ r → 0 ≤ B q ∧ B q ≤ n) ∧ ((0 < n → r ≤ B r) ∧ (n = 0 → r ≤ 1)) ∧ (∀ q, 0 ≤ q → q < r → M (a + 7) q = B q) ∧ (∀ q, 0 ≤ q → q < r → B q ≤ B (q + 1) ∧ (0 < n → B q < B (q + 1))) ∧
  (∀ q, 0 ≤ q → q < r → (B (q + 1) = n ∧ ∀ i, B q ≤ i → i < n → zl_ok1 w t m (s i) i (zl_at w t m s (B q) (zl_c0 ind q) i)) ∨ ∃ j, zl_stop n w t m s (B q) (zl_c0 ind q) j ∧ zl_end n m s (B q) j (B (q + 1))) ∧
  (∀ q, 0 ≤ q → q < r → zl_row w t m s ind q (B q) (B (q + 1)) (M (a + 1)) (M (a + 2)) (M (a + 3)) (M (a + 4))) ∧
  (∀ q, 0 ≤ q → q < r → M (a + 8) q = zl_at w t m s (B q) (zl_c0 ind q) (B (q + 1)))
theorem zl_inv_step {n w t m ind a r e j : Int} {s B : Int → Int} {M : zI} {C E H : Int → Int} (h : zl_inv n w t m ind s a M r B) (hr : 0 ≤ r) (hw : 4 ≤ w) (ht : 1 ≤ t) (hi : 0 ≤ ind ∧ ind ≤ w / 2) (hf : zl_fin n w t m s (B r) (zl_c0 ind r) e j) (hC : ∀ i, C i = zl_at w t m s (B r) (zl_c0 ind r) i) (hE : ∀ i, E i = zl_eff w t m (s i) i (C i)) (hH : ∀ i, H i = if zl_fitb w t m (s i) i (C i) then 0 else 1) (h0 : r = 0 ∨ B r < n) :
    zl_inv n w t m ind s a (zi_up (zi_up (zp_ly (zi_up M (a + 7) r (B r)) a r (B r) j C E H) (a + 8) r (C e)) a 1 (r + 1)) (r + 1) (fun q => if q ≤ r then B q else e) := by
  obtain ⟨p1, p2, p3, p4, p5, p6, p7, p8⟩ := h
  obtain ⟨f1, f2, f3⟩ := hf
  have pr := p2 r hr (Int.le_refl _)
  have hc0 : 0 ≤ zl_c0 ind r ∧ zl_c0 ind r ≤ w / 2 := by unfold zl_c0; split <;> omega
  have hlt : B r < n → B r < e := by
    intro hb
    rcases f3 with z | ⟨z1, z2⟩
    · omega
    · have hj : ¬ B r = j := by
        intro q
        have := z1.2.2.2
        rw [← q, zl_at_self] at this
        exact this (zl_first_ok hw ht hc0)
      rcases z2 with z2 | ⟨_, z2 | z2⟩ <;> omega
  have hz : (B r < n) ∨ (n = 0) ∨ (r = 0 ∧ B r = 0 ∧ 0 < n) := by
    by_cases g : B r < n
    · exact Or.inl g
    · by_cases g2 : n = 0
      · exact Or.inr (Or.inl g2)
      · have : r = 0 := by omega
        subst this
        omega
  have e1 : ∀ q, 0 ≤ q → q < r → (fun q => if q ≤ r then B q else e) q = B q := fun q q1 q2 => if_pos (by omega)
  have e2 : ∀ q, 0 ≤ q → q < r → (fun q => if q ≤ r then B q else e) (q + 1) = B (q + 1) := fun q q1 q2 => if_pos (by omega)
  have e3 : (fun q => if q ≤ r then B q else e) r = B r := if_pos (by omega)
  have e4 : (fun q => if q ≤ r then B q else e) (r + 1) = e := if_neg (by omega)
  have lt : ∀ q, 0 ≤ q → q < r → B (q + 1) ≤ B r := by
    have key : ∀ k : Nat, ∀ q, 0 ≤ q → q + 1 + k = r → B (q + 1) ≤ B r := by
      intro k
      induction k with
      | zero => intro q q1 q2; rw [show q + 1 = r by omega]; exact Int.le_refl _
      | succ k ih =>
        intro q q1 q2
        have := ih (q + 1) (by omega) (by omega)
        have := (p5 (q + 1) (by omega) (by omega)).1
        omega
    intro q q1 q2
    exact key (r - (q + 1)).toNat q q1 (by omega)
  refine ⟨?_, ?_, ?_, ?_, ?_, ?_, ?_, ?_⟩
  · show (if (0 : Int) ≤ r then B 0 else e) = 0
    rw [if_pos hr, p1]
  · intro q q1 q2
    by_cases g : q = r + 1
    · rw [g, e4]; omega
    · show 0 ≤ (if q ≤ r then B q else e) ∧ (if q ≤ r then B q else e) ≤ n
      rw [if_pos (by omega)]
      exact p2 q q1 (by omega)
  · rw [e4]
    exact ⟨fun hn => by have := p3.1 hn; omega, fun hn => by omega⟩
  · intro q q1 q2
    show _ = if q ≤ r then B q else e
    rw [if_pos (by omega), zu_ne (by omega), zu_ne (by omega), zp_ly_off (by omega)]
    by_cases g : q = r
    · subst g; exact zu_eq ⟨rfl, rfl⟩
    · rw [zu_ne (by omega)]; exact p4 q q1 (by omega)
  · intro q q1 q2
    by_cases g : q = r
    · subst g
      rw [e3, e4]
      omega
    · rw [e1 q q1 (by omega), e2 q q1 (by omega)]
      exact p5 q q1 (by omega)
  · intro q q1 q2
    by_cases g : q = r
    · subst g
      rw [e3, e4]
      rcases f3 with ⟨z1, z2⟩ | ⟨z1, z2⟩
      · subst z2; exact Or.inl ⟨z1, f2⟩
      · exact Or.inr ⟨j, z1, z2⟩
    · rw [e1 q q1 (by omega), e2 q q1 (by omega)]
      exact p6 q q1 (by omega)
  · intro q q1 q2 i i1 i2
    have k1 : ∀ z, zi_up (zi_up (zp_ly (zi_up M (a + 7) r (B r)) a r (B r) j C E H) (a + 8) r (C e)) a 1 (r + 1) (a + z) i = if z = 8 then _ else if z = 0 then _ else zp_ly (zi_up M (a + 7) r (B r)) a r (B r) j C E H (a + z) i := fun z => by
      by_cases g8 : z = 8
      · rw [if_pos g8]
      · by_cases g0 : z = 0
        · rw [if_neg g8, if_pos g0]
        · rw [if_neg g8, if_neg g0, zu_ne (by omega), zu_ne (by omega)]
    have d1 := k1 1
    have d2 := k1 2
    have d3 := k1 3
    have d4 := k1 4
    rw [if_neg (by omega), if_neg (by omega)] at d1 d2 d3 d4
    rw [d1, d2, d3, d4]
    by_cases g : q = r
    · subst g
      rw [e3] at i1 ⊢
      rw [e4] at i2
      have g1 : zp_ly (zi_up M (a + 7) q (B q)) a q (B q) j C E H (a + 1) i = q := by rw [zp_ly_at, if_pos (by omega), if_pos rfl]
      have g2 : zp_ly (zi_up M (a + 7) q (B q)) a q (B q) j C E H (a + 2) i = C i := by rw [zp_ly_at, if_pos (by omega), if_neg (by omega), if_pos rfl]
      have g3 : zp_ly (zi_up M (a + 7) q (B q)) a q (B q) j C E H (a + 3) i = E i := by rw [zp_ly_at, if_pos (by omega), if_neg (by omega), if_neg (by omega), if_pos rfl]
      have g4 : zp_ly (zi_up M (a + 7) q (B q)) a q (B q) j C E H (a + 4) i = H i := by rw [zp_ly_at, if_pos (by omega), if_neg (by omega), if_neg (by omega), if_neg (by omega), if_pos rfl]
      rw [g1, g2, g3, g4]
      exact ⟨rfl, hC i, by rw [hE, hC], by rw [hH, hC]⟩
    · rw [e1 q q1 (by omega)] at i1 ⊢
      rw [e2 q q1 (by omega)] at i2
      have := lt q q1 (by omega)
      have g0 : ∀ z, z = 1 ∨ z = 2 ∨ z = 3 ∨ z = 4 → zp_ly (zi_up M (a + 7) r (B r)) a r (B r) j C E H (a + z) i = M (a + z) i := fun z hz => by rw [zp_ly_at, if_neg (by omega), zu_ne (by omega)]
      rw [g0 1 (by omega), g0 2 (by omega), g0 3 (by omega), g0 4 (by omega)]
      exact p7 q q1 (by omega) i i1 i2
  · intro q q1 q2
    by_cases g : q = r
    · subst g
      rw [e3, e4, zu_ne (by omega), zu_eq ⟨rfl, rfl⟩, hC]
    · rw [e1 q q1 (by omega), e2 q q1 (by omega), zu_ne (by omega), zu_ne (by omega), zp_ly_off (by omega), zu_ne (by omega)]
      exact p8 q q1 (by omega)
/-- a line as it is laid -/
def zl_pic (n w t m ind : Int) (s : Int → Int) (I : zI) (a : Int) : Prop := I a 0 = n ∧ I a 2 = ind ∧ zl_ok n w t m ind s (I a 1) (I (a + 1)) (I (a + 2)) (I (a + 3)) (I (a + 4)) (I (a + 7)) ∧ (∀ i, 0 ≤ i → i ≤ n → I (a + 5) i = zq (zl_isstop n s (I (a + 4)) i)) ∧ (∀ i, 0 ≤ i → i ≤ n → I (a + 6) i = zq (zl_brk n s i)) ∧ ∀ r, 0 ≤ r → r < I a 1 → I (a + 8) r = zl_at w t m s (I (a + 7) r) (zl_c0 ind r) (I (a + 7) (r + 1))
section ZLh
variable {d : Nat} {S : zS} {I J R : zI} {T : Int × Nat} {a b n v l c m k x y r w t p : Int} {s : Int → Int}
theorem zi_half {w : Int} (h : 0 ≤ w ∧ w ≤ 1000) : zi_div w 2 = w / 2 := by
  unfold zi_div
  rw [Int.tdiv_eq_ediv_of_nonneg h.1]
  exact zw_id (by omega) (by omega)
set_option maxHeartbeats 4000000 in
theorem zx_arrange (h : zs_ll S R a) (g : zs_li S R p) (hs : zs_se S c) (hr : zr_se I c) (hap : a + 9 ≤ p ∨ p + 3 ≤ a) (hac : c < a ∨ a + 9 ≤ c) (hl : 0 ≤ l ∧ l < 12) (hn : I (p + 1) l = n) (hn2 : 0 ≤ n ∧ n ≤ 40) (hsg : ∀ i, 0 ≤ i → i < n → I (p + 2) (l * 40 + i) = s i) : ∃ J, zG (d + 5) 34 [.inr (.inr a), .inr (.inr p), .inl l, .inr (.inr c)] (S, I, R, T) = some (0, (S, J, R, T)) ∧ zo a (a + 9) I J ∧ zl_pic n (I c 0) (I c 1) (I c 2) (zl_ind n (I c 0) (I c 1) (I c 2) (I c 3) s) s J a := by
  obtain ⟨h0, h1, ⟨r3, r4, r5, r6, r7, r8, r9, r10⟩, s1, s2, s3, s4, s5, s6, s7, s8⟩ := id h
  have g1 := g.2.1
  have hs1 := hs.2
  obtain ⟨hw, ht, hm, he⟩ := id hr
  obtain ⟨w, hwe⟩ : ∃ w, w = I c 0 := ⟨_, rfl⟩
  obtain ⟨t, hte⟩ : ∃ t, t = I c 1 := ⟨_, rfl⟩
  obtain ⟨m, hme⟩ : ∃ m, m = I c 2 := ⟨_, rfl⟩
  obtain ⟨ind, hind⟩ : ∃ ind, ind = zl_ind n (I c 0) (I c 1) (I c 2) (I c 3) s := ⟨_, rfl⟩
  rw [← hind, ← hwe, ← hte, ← hme]
  rw [← hwe] at hw
  rw [← hte] at ht
  rw [zm_34]
  have fin : ∀ (M : zI) (rr : Int) (B : Int → Int) (w' : Nat), zo a (a + 9) I M → M a 0 = n → M a 2 = ind → M a 1 = rr → (∀ i, 0 ≤ i → i ≤ n → M (a + 6) i = zq (zl_brk n s i)) → 1 ≤ rr → B rr = n → zl_inv n w t m ind s a M rr B → ∃ J, zi_run zt_34 (zG (d + 4)) (w' + 1) 114 [some (.inr (.inr a)), some (.inr (.inr p)), some (.inl l), none, none, none] [] (S, M, R, T) = some (0, (S, J, R, T)) ∧ zo a (a + 9) I J ∧ zl_pic n w t m ind s J a := by
    intro M rr B w' ho m0 m2 m1 mb hrr hBn hinv
    obtain ⟨p1, p2, p3, p4, p5, p6, p7, p8⟩ := hinv
    have hrn : rr ≤ n + 1 := by
      by_cases q : 0 < n
      · have := p3.1 q; omega
      · have := p3.2 (by omega); omega
    have hr41 : rr ≤ 41 := by omega
    obtain ⟨cv, hcv⟩ : ∃ cv, cv = zl_at w t m s (B (rr - 1)) (zl_c0 ind (rr - 1)) n := ⟨_, rfl⟩
    have hcb : M (a + 8) (rr - 1) = cv := by rw [p8 (rr - 1) (by omega) (by omega), show rr - 1 + 1 = rr by omega, hBn, hcv]
    obtain ⟨M3, hM3⟩ : ∃ M3, M3 = zi_up (zi_up (zi_up M (a + 7) rr n) (a + 1) n (rr - 1)) (a + 2) n cv := ⟨_, rfl⟩
    have x0 : zi_up M (a + 7) rr n a 0 = n := by rw [zu_ne (by omega), m0]
    have x1 : zi_up M (a + 7) rr n a 1 = rr := by rw [zu_ne (by omega), m1]
    have y0 : zi_up (zi_up M (a + 7) rr n) (a + 1) n (rr - 1) a 0 = n := by rw [zu_ne (by omega), x0]
    have y1 : zi_up (zi_up M (a + 7) rr n) (a + 1) n (rr - 1) a 1 = rr := by rw [zu_ne (by omega), x1]
    have y8 : zi_up (zi_up M (a + 7) rr n) (a + 1) n (rr - 1) (a + 8) (rr - 1) = cv := by rw [zu_ne (by omega), zu_ne (by omega), hcb]
    have z0 : M3 a 0 = n := by rw [hM3, zu_ne (by omega), y0]
    have zs : ∀ i, 0 ≤ i → i < n → M3 (p + 2) (l * 40 + i) = s i := fun i i1 i2 => by
      rw [hM3, zu_ne (by omega), zu_ne (by omega), zu_ne (by omega), ho (p + 2) (by omega)]
      exact hsg i i1 i2
    have ef := zx_findStops (d := d + 1) (I := M3) (T := T) h g hap hl z0 hn2 zs
    rw [hM3] at ef
    rw [zk_34_114]
    ((try simp only [zbd_conv]); simp (disch := first | assumption | omega | trivial) only [↓reduceIte, zbd_some, eq_self, Int.reduceEq, Int.reduceLT, Int.reduceLE, and_self, or_true, true_or, or_false, false_or, if_pos, if_neg, if_true, if_false, true_and, and_true, not_true_eq_false, not_false_eq_true, false_and, and_false, Option.bind_some, zq_t, zq_f, zq0, zq1, zw_id, h1, r3, r4, r9, m0, m1, x0, x1, y0, y1, zx_put (show 0 < a + 7 by omega) s7, zx_put (show 0 < a + 1 by omega) s1, zx_put (show 0 < a + 2 by omega) s2, zk_pt_in, zx_columnBehind h, zk_pk_in, y8, ef])
    rw [← hM3]
    obtain ⟨J, hJ⟩ : ∃ J, J = zp_fs M3 a n s (n + 1) := ⟨_, rfl⟩
    rw [← hJ]
    have j5 : ∀ q j, q ≠ a + 5 → J q j = M3 q j := fun q j hq => by rw [hJ]; unfold zp_fs; rw [if_neg (by omega)]
    have jm : ∀ q j, q ≠ a + 5 → q ≠ a + 7 → q ≠ a + 1 → q ≠ a + 2 → J q j = M q j := fun q j q1 q2 q3 q4 => by rw [j5 q j q1, hM3, zu_ne (by omega), zu_ne (by omega), zu_ne (by omega)]
    have jB : ∀ q, 0 ≤ q → q ≤ rr → J (a + 7) q = B q := fun q q1 q2 => by
      rw [j5 _ _ (by omega), hM3, zu_ne (by omega), zu_ne (by omega)]
      by_cases gq : q = rr
      · rw [zu_eq ⟨rfl, gq⟩, gq, hBn]
      · rw [zu_ne (by omega)]; exact p4 q q1 (by omega)
    have jr : ∀ i, i ≠ n → J (a + 1) i = M (a + 1) i := fun i hi => by rw [j5 _ _ (by omega), hM3, zu_ne (by omega), zu_ne (by omega), zu_ne (by omega)]
    have jc : ∀ i, i ≠ n → J (a + 2) i = M (a + 2) i := fun i hi => by rw [j5 _ _ (by omega), hM3, zu_ne (by omega), zu_ne (by omega), zu_ne (by omega)]
    have j1 : J a 1 = rr := by rw [jm _ _ (by omega) (by omega) (by omega) (by omega), m1]
    refine ⟨J, rfl, fun x hx => ?_, ?_, ?_, ?_, fun i i1 i2 => ?_, fun i i1 i2 => ?_, fun q q1 q2 => ?_⟩
    · funext j
      rw [jm x j (by omega) (by omega) (by omega) (by omega), ho x hx]
    · rw [j5 _ _ (by omega), z0]
    · rw [jm _ _ (by omega) (by omega) (by omega) (by omega), m2]
    · rw [j1]
      refine ⟨⟨hrr, hrn⟩, ?_, ?_, fun q q1 q2 => ?_, fun q q1 q2 => ?_, fun i i1 i2 => ?_, fun q q1 q2 i i1 i2 => ?_, ?_, ?_⟩
      · rw [jB 0 (by omega) (by omega), p1]
      · rw [jB rr (by omega) (by omega), hBn]
      · rw [jB q q1 (by omega), jB (q + 1) (by omega) (by omega)]
        exact p5 q q1 q2
      · rw [jB q q1 (by omega), jB (q + 1) (by omega) (by omega)]
        rcases p6 q q1 (by omega) with ⟨z, -⟩ | z
        · exfalso
          have z1 := (p5 (q + 1) (by omega) (by omega)).2
          have z2 := p2 (q + 1 + 1) (by omega) (by omega)
          omega
        · exact z
      · rw [jB (rr - 1) (by omega) (by omega)] at i1 ⊢
        rcases p6 (rr - 1) (by omega) (by omega) with ⟨-, z⟩ | ⟨j, z1, z2⟩
        · exact z i i1 i2
        · exfalso
          have z3 := z1.2.1
          rw [show rr - 1 + 1 = rr by omega, hBn] at z2
          rcases z2 with z2 | ⟨_, z2 | z2⟩ <;> omega
      · rw [jB q q1 (by omega)] at i1 ⊢
        rw [jB (q + 1) (by omega) (by omega)] at i2
        have z2 := p2 (q + 1) (by omega) (by omega)
        rw [jr i (by omega), jc i (by omega), jm (a + 3) i (by omega) (by omega) (by omega) (by omega), jm (a + 4) i (by omega) (by omega) (by omega) (by omega)]
        exact p7 q q1 q2 i i1 i2
      · rw [j5 _ _ (by omega), hM3, zu_ne (by omega), zu_eq ⟨rfl, rfl⟩]
      · rw [jB (rr - 1) (by omega) (by omega), j5 _ _ (by omega), hM3, zu_eq ⟨rfl, rfl⟩, hcv]
    · have q1 : zp_fs M3 a n s (n + 1) (a + 4) = M3 (a + 4) := by
        funext j
        unfold zp_fs
        rw [if_neg (by omega)]
      rw [hJ, q1]
      unfold zp_fs
      rw [if_pos ⟨rfl, by omega, by omega⟩]
    · rw [jm _ _ (by omega) (by omega) (by omega) (by omega)]
      exact mb i i1 i2
    · rw [j1] at q2
      rw [jB q q1 (by omega), jB (q + 1) (by omega) (by omega), jm _ _ (by omega) (by omega) (by omega) (by omega)]
      exact p8 q q1 q2
  have key : ∀ (u : Nat) (rr : Int) (M : zI) (B : Int → Int) (w' : Nat), (u : Int) + rr = 42 → 0 ≤ rr → u + 2 ≤ w' → zo a (a + 9) I M → M a 0 = n → M a 2 = ind → (0 < rr → M a 1 = rr) → (∀ i, 0 ≤ i → i ≤ n → M (a + 6) i = zq (zl_brk n s i)) → (0 ≤ ind ∧ ind ≤ w / 2) → zl_inv n w t m ind s a M rr B → ∃ J, zi_run zt_34 (zG (d + 4)) w' 57 [some (.inr (.inr a)), some (.inr (.inr p)), some (.inl l), some (.inr (.inr c)), some (.inl (B rr)), some (.inl rr)] [] (S, M, R, T) = some (0, (S, J, R, T)) ∧ zo a (a + 9) I J ∧ zl_pic n w t m ind s J a := by
    intro u
    induction u with
    | zero =>
      intro rr M B w' k1 k2 k3 _ _ _ _ _ _ hinv
      exfalso
      have z1 := hinv.2.2.1
      have z2 := hinv.2.1 rr k2 (Int.le_refl _)
      by_cases q : 0 < n
      · have := z1.1 q; omega
      · have := z1.2 (by omega); omega
    | succ u ih =>
      intro rr M B w' k1 k2 k3 ho m0 m2 m1 mb hiw hinv
      obtain ⟨w', rfl⟩ : ∃ w'', w' = w'' + 1 + 1 := ⟨w' - 2, by omega⟩
      have zr := hinv.2.2.1
      have zb := hinv.2.1 rr k2 (Int.le_refl _)
      rw [zk_34_57]
      by_cases hx : rr = 0 ∨ B rr < n
      · have hr40 : rr ≤ 40 := by
          rcases hx with q | q
          · omega
          · have := zr.1 (by omega); omega
        obtain ⟨M1, hM1⟩ : ∃ M1, M1 = zi_up M (a + 7) rr (B rr) := ⟨_, rfl⟩
        have a0 : M1 a 0 = n := by rw [hM1, zu_ne (by omega), m0]
        have a2 : M1 a 2 = ind := by rw [hM1, zu_ne (by omega), m2]
        have a7 : M1 (a + 7) rr = B rr := by rw [hM1, zu_eq ⟨rfl, rfl⟩]
        have ac : M1 c = I c := by rw [hM1, zu_off (by omega), ho c (by omega)]
        have as : ∀ i, 0 ≤ i → i < n → M1 (p + 2) (l * 40 + i) = s i := fun i i1 i2 => by rw [hM1, zu_ne (by omega), ho (p + 2) (by omega)]; exact hsg i i1 i2
        have ab : ∀ i, 0 ≤ i → i ≤ n → M1 (a + 6) i = zq (zl_brk n s i) := fun i i1 i2 => by rw [hM1, zu_ne (by omega)]; exact mb i i1 i2
        obtain ⟨C, hC⟩ : ∃ C : Int → Int, ∀ i, C i = zl_at w t m s (B rr) (zl_c0 ind rr) i := ⟨_, fun _ => rfl⟩
        obtain ⟨E, hE⟩ : ∃ E : Int → Int, ∀ i, E i = zl_eff w t m (s i) i (C i) := ⟨_, fun _ => rfl⟩
        obtain ⟨H, hH⟩ : ∃ H : Int → Int, ∀ i, H i = if zl_fitb w t m (s i) i (C i) then 0 else 1 := ⟨_, fun _ => rfl⟩
        obtain ⟨e, j, q1, q2⟩ := zx_fillRow (d := d) (I := M1) (T := T) h g hs (zr_se_congr hr ac) hap hac hl a0 hn2 as ⟨k2, hr40⟩ a7 zb (by rw [a2]; omega) ab (w := w) (t := t) (m := m) (by rw [ac, hwe]) (by rw [ac, hte]) (by rw [ac, hme]) (C := C) (E := E) (H := H) (fun i => by rw [a2]; exact hC i) hE hH
        rw [a2] at q2
        have st := zl_inv_step hinv k2 hw.1 ht.1 hiw q2 hC hE hH hx
        rw [← hM1] at st
        obtain ⟨M3, hM3⟩ : ∃ M3, M3 = zi_up (zi_up (zp_ly M1 a rr (B rr) j C E H) (a + 8) rr (C e)) a 1 (rr + 1) := ⟨_, rfl⟩
        rw [← hM3] at st
        have off : ∀ q, (q < a + 1 ∨ a + 4 < q) → q ≠ a + 8 → q ≠ a → M3 q = M1 q := fun q o1 o2 o3 => by rw [hM3, zu_off (by omega), zu_off (by omega), zp_ly_off (by omega)]
        have oo : ∀ j, j ≠ 1 → M3 a j = M1 a j := fun j oj => by rw [hM3, zu_ne (by omega), zu_ne (by omega), zp_ly_off (by omega)]
        have nx := ih (rr + 1) M3 (fun q => if q ≤ rr then B q else e) (w' + 1) (by omega) (by omega) (by omega) (fun x hx => by rw [hM3, zu_off (by omega), zu_off (by omega), zp_ly_off (by omega), hM1, zu_off (by omega)]; exact ho x hx) (by rw [oo 0 (by omega), a0]) (by rw [oo 2 (by omega), a2]) (fun _ => by rw [hM3, zu_eq ⟨rfl, rfl⟩]) (fun i i1 i2 => by rw [off (a + 6) (by omega) (by omega) (by omega)]; exact ab i i1 i2) hiw st
        rw [if_neg (show ¬ (rr + 1 ≤ rr) by omega), hM3, hM1] at nx
        rw [hM1] at q1
        by_cases g0 : rr = 0
        · ((try simp only [zbd_conv]); simp (disch := first | assumption | omega | trivial) only [↓reduceIte, zbd_some, eq_self, Int.reduceEq, Int.reduceLT, Int.reduceLE, and_self, or_true, true_or, or_false, false_or, if_pos, if_neg, if_true, if_false, true_and, and_true, not_true_eq_false, not_false_eq_true, false_and, and_false, Option.bind_some, zq_t, zq_f, zq0, zq1, zw_id, h1, r9, zx_put (show 0 < a + 7 by omega) s7, zk_pt_in, q1, zwr])
          exact nx
        · ((try simp only [zbd_conv]); simp (disch := first | assumption | omega | trivial) only [↓reduceIte, zbd_some, eq_self, Int.reduceEq, Int.reduceLT, Int.reduceLE, and_self, or_true, true_or, or_false, false_or, if_pos, if_neg, if_true, if_false, true_and, and_true, not_true_eq_false, not_false_eq_true, false_and, and_false, Option.bind_some, zq_t, zq_f, zq0, zq1, zw_id, h1, m0, r9, zx_put (show 0 < a + 7 by omega) s7, zk_pt_in, q1, zwr])
          exact nx
      · have f := fin M rr B w' ho m0 m2 (m1 (by omega)) mb (by omega) (by omega) hinv
        by_cases g4 : 40 < rr
        · ((try simp only [zbd_conv]); simp (disch := first | assumption | omega | trivial) only [↓reduceIte, zbd_some, eq_self, Int.reduceEq, Int.reduceLT, Int.reduceLE, and_self, or_true, true_or, or_false, false_or, if_pos, if_neg, if_true, if_false, true_and, and_true, not_true_eq_false, not_false_eq_true, false_and, and_false, Option.bind_some, zq_t, zq_f, zq0, zq1, zw_id])
          exact f
        · ((try simp only [zbd_conv]); simp (disch := first | assumption | omega | trivial) only [↓reduceIte, zbd_some, eq_self, Int.reduceEq, Int.reduceLT, Int.reduceLE, and_self, or_true, true_or, or_false, false_or, if_pos, if_neg, if_true, if_false, true_and, and_true, not_true_eq_false, not_false_eq_true, false_and, and_false, Option.bind_some, zq_t, zq_f, zq0, zq1, zw_id, h1, m0])
          exact f
  have hlen : zG (d + 4) 58 [.inr (.inr p), .inl l] (S, I, R, T) = some (n, (S, I, R, T)) := by
    rw [zx_length g, zk_pk_in (by omega), hn]
  obtain ⟨I1, hI1⟩ : ∃ I1, I1 = zi_up I a 0 n := ⟨_, rfl⟩
  have c1 : I1 c = I c := by rw [hI1, zu_off (by omega)]
  have b0 : I1 a 0 = n := by rw [hI1, zu_eq ⟨rfl, rfl⟩]
  have b1 : ∀ i, 0 ≤ i → i < n → I1 (p + 2) (l * 40 + i) = s i := fun i i1 i2 => by rw [hI1, zu_ne (by omega)]; exact hsg i i1 i2
  obtain ⟨ld1, ld2, ld3⟩ := zx_leading (d := d + 1) (I := I1) (T := T) h g hs (zr_se_congr hr c1) hl b0 hn2 b1
  rw [c1] at ld1 ld2 ld3
  obtain ⟨ld, hld⟩ : ∃ ld, ld = zl_lead n (I c 1) s 41 0 0 := ⟨_, rfl⟩
  rw [← hld] at ld1 ld2 ld3
  have start : (0 ≤ ind ∧ ind ≤ w / 2) → ∃ J, zi_run zt_34 (zG (d + 4)) 1019999 57 [some (.inr (.inr a)), some (.inr (.inr p)), some (.inl l), some (.inr (.inr c)), some (.inl 0), some (.inl 0)] [] (S, zp_fb (zi_up I1 a 2 ind) a n s (n + 1), R, T) = some (0, (S, J, R, T)) ∧ zo a (a + 9) I J ∧ zl_pic n w t m ind s J a := by
    intro hiw
    refine key 42 0 (zp_fb (zi_up I1 a 2 ind) a n s (n + 1)) (fun _ => 0) 1019999 (by omega) (by omega) (by omega) (fun x hx => ?_) ?_ ?_ (fun q => absurd q (by omega)) (fun i i1 i2 => ?_) hiw ⟨rfl, fun _ _ _ => ⟨Int.le_refl _, hn2.1⟩, ⟨fun _ => Int.le_refl _, fun _ => by omega⟩, fun q q1 q2 => absurd q1 (by omega), fun q q1 q2 => absurd q1 (by omega), fun q q1 q2 => absurd q1 (by omega), fun q q1 q2 => absurd q1 (by omega), fun q q1 q2 => absurd q1 (by omega)⟩
    · funext j
      unfold zp_fb
      rw [if_neg (by omega), zu_ne (by omega), hI1, zu_ne (by omega)]
    · unfold zp_fb
      rw [if_neg (by omega), zu_ne (by omega), b0]
    · unfold zp_fb
      rw [if_neg (by omega), zu_eq ⟨rfl, rfl⟩]
    · unfold zp_fb
      rw [if_pos ⟨rfl, i1, by omega⟩]
  have fb := zx_findBreaks (d := d + 1) (I := zi_up I1 a 2 ind) (T := T) (n := n) (s := s) h g hap hl (by rw [zu_ne (by omega), b0]) hn2 (fun i i1 i2 => by rw [zu_ne (by omega)]; exact b1 i i1 i2)
  have i1c : ∀ j, zi_up I a 0 n c j = I c j := fun j => zu_ne (by omega)
  rw [hI1] at ld1 fb start
  unfold zl_ind at hind
  rw [← hld] at hind
  by_cases gm : I c 2 = 0
  · rw [if_pos gm] at hind
    subst hind
    ((try simp only [zbd_conv]); simp (disch := first | assumption | omega | trivial) only [↓reduceIte, zbd_some, eq_self, Int.reduceEq, Int.reduceLT, Int.reduceLE, and_self, or_true, true_or, or_false, false_or, if_pos, if_neg, if_true, if_false, true_and, and_true, not_true_eq_false, not_false_eq_true, false_and, and_false, Option.bind_some, zq_t, zq_f, zq0, zq1, zw_id, g1, h1, hs1, hlen, zwr, i1c, gm, fb])
    exact start (by omega)
  · rw [if_neg gm] at hind
    have hmn : zG (d + 4) 1002 [.inl (ld + I c 3), .inl (I c 0 / 2)] (S, zi_up I a 0 n, R, T) = some (ind, (S, zi_up I a 0 n, R, T)) := by
      rw [hind]; rfl
    have hib : 0 ≤ ind ∧ ind ≤ I c 0 / 2 := by
      rw [hind]
      split <;> omega
    ((try simp only [zbd_conv]); simp (disch := first | assumption | omega | trivial) only [↓reduceIte, zbd_some, eq_self, Int.reduceEq, Int.reduceLT, Int.reduceLE, and_self, or_true, true_or, or_false, false_or, if_pos, if_neg, if_true, if_false, true_and, and_true, not_true_eq_false, not_false_eq_true, false_and, and_false, Option.bind_some, zq_t, zq_f, zq0, zq1, zw_id, g1, h1, hs1, hlen, zwr, i1c, ld1, zi_half, hmn, fb])
    exact start (by rw [hwe]; exact hib)
end ZLh
