/-! the reference: two lines become one, and folds follow -/
section ZJm
variable {d : Nat} {S : zS} {I J K R F : zI} {T : Int × Nat} {M n v l f c k x y z r i p m a N b : Int} {P Q Q0 D s : Int → Int}
theorem zj_x_at : zj_x l v = if l < v then v - 1 else v := rfl
/-- what is kept is in the order of folds -/
def zj_gd (F : zI) (l m N k : Int) (p : Int × zI) : Prop := (∀ j, 0 ≤ j → j < p.1 → (0 ≤ p.2 1 j ∧ p.2 1 j < p.2 2 j ∧ p.2 2 j < m - 1) ∧ 0 ≤ p.2 3 j ∧ p.2 3 j ≤ 1) ∧ (∀ i j, 0 ≤ i → i < j → j < p.1 → zf_nest (p.2 1 i) (p.2 2 i) (p.2 1 j) (p.2 2 j)) ∧ ∀ j k', 0 ≤ j → j < p.1 → k ≤ k' → k' < N → (p.2 1 j ≤ zj_x l (F 1 k') ∧ zj_x l (F 2 k') ≤ p.2 2 j) ∨ p.2 2 j ≤ zj_x l (F 1 k')
theorem zj_gd_step {p : Int × zI} (hF : ∀ j, 0 ≤ j → j < N → (0 ≤ F 1 j ∧ F 1 j < F 2 j ∧ F 2 j < m) ∧ 0 ≤ F 3 j ∧ F 3 j ≤ 1) (hn : ∀ j k, 0 ≤ j → j < k → k < N → zf_nest (F 1 j) (F 2 j) (F 1 k) (F 2 k)) (hl : 0 ≤ l ∧ l + 1 < m) (hk : 0 ≤ k ∧ k < N) (h0 : 0 ≤ p.1) (h : zj_gd F l m N k p) : zj_gd F l m N (k + 1) (zj_step F l k p) := by
  obtain ⟨h1, h2, h3⟩ := h
  by_cases g : zj_x l (F 1 k) < zj_x l (F 2 k) ∧ ¬ zj_cl p.2 p.1 (zj_x l (F 1 k)) (zj_x l (F 2 k))
  · rw [zj_step_t g]
    obtain ⟨c, A⟩ := p
    dsimp only at h0 h1 h2 h3 g
    obtain ⟨x, hx⟩ : ∃ x, zj_x l (F 1 k) = x := ⟨_, rfl⟩
    obtain ⟨y, hy⟩ : ∃ y, zj_x l (F 2 k) = y := ⟨_, rfl⟩
    rw [hx, hy] at g ⊢
    have hk3 := fun j j1 j2 => h3 j k j1 j2 (Int.le_refl _) hk.2
    rw [hx, hy] at hk3
    have fk := hF k hk.1 hk.2
    have bx : 0 ≤ x ∧ y < m - 1 := by
      rw [zj_x_at] at hx hy
      by_cases g1 : l < F 1 k <;> by_cases g2 : l < F 2 k <;> simp (disch := first | assumption | omega | trivial) only [if_pos, if_neg, if_true, if_false, true_and, and_true, not_true_eq_false, not_false_eq_true, false_and, and_false, Option.bind_some, zq_t, zq_f, zq0, zq1, zw_id] at hx <;> simp (disch := first | assumption | omega | trivial) only [if_pos, if_neg, if_true, if_false, true_and, and_true, not_true_eq_false, not_false_eq_true, false_and, and_false, Option.bind_some, zq_t, zq_f, zq0, zq1, zw_id] at hy <;> omega
    have o1 : ∀ j, j < c → zj_app A c x y (F 3 k) 1 j = A 1 j := fun j hj => by unfold zj_app; rw [zu_ne (by omega), zu_ne (by omega), zu_ne (by omega)]
    have o2 : ∀ j, j < c → zj_app A c x y (F 3 k) 2 j = A 2 j := fun j hj => by unfold zj_app; rw [zu_ne (by omega), zu_ne (by omega), zu_ne (by omega)]
    have o3 : ∀ j, j < c → zj_app A c x y (F 3 k) 3 j = A 3 j := fun j hj => by unfold zj_app; rw [zu_ne (by omega), zu_ne (by omega), zu_ne (by omega)]
    have n1 : zj_app A c x y (F 3 k) 1 c = x := by unfold zj_app; rw [zu_ne (by omega), zu_ne (by omega), zu_eq ⟨rfl, rfl⟩]
    have n2 : zj_app A c x y (F 3 k) 2 c = y := by unfold zj_app; rw [zu_ne (by omega), zu_eq ⟨rfl, rfl⟩]
    have n3 : zj_app A c x y (F 3 k) 3 c = F 3 k := by unfold zj_app; rw [zu_eq ⟨rfl, rfl⟩]
    refine ⟨fun j j1 j2 => ?_, fun i j i1 i2 i3 => ?_, fun j k' j1 j2 k1 k2 => ?_⟩ <;> dsimp only at *
    · by_cases e : j = c
      · rw [e, n1, n2, n3]; omega
      · rw [o1 j (by omega), o2 j (by omega), o3 j (by omega)]; exact h1 j j1 (by omega)
    · by_cases e : j = c
      · rw [e, n1, n2, o1 i (by omega), o2 i (by omega)]
        have a := hk3 i i1 (by omega)
        have bb := (h1 i i1 (by omega)).1
        have ng : ¬ zf_odds (A 1 i) (A 2 i) x y := fun q => g.2 ⟨i, ⟨i1, by omega⟩, q⟩
        unfold zf_odds at ng
        unfold zf_nest
        omega
      · rw [o1 i (by omega), o2 i (by omega), o1 j (by omega), o2 j (by omega)]; exact h2 i j i1 i2 (by omega)
    · by_cases e : j = c
      · rw [e, n1, n2, ← hx, ← hy]
        have a := hn k k' hk.1 (by omega) k2
        have fk' := hF k' (by omega) k2
        unfold zf_nest at a
        rw [zj_x_at, zj_x_at, zj_x_at, zj_x_at]
        by_cases g1 : l < F 1 k <;> by_cases g2 : l < F 2 k <;> by_cases g3 : l < F 1 k' <;> by_cases g4 : l < F 2 k' <;> simp (disch := first | assumption | omega | trivial) only [if_pos, if_neg, if_true, if_false, true_and, and_true, not_true_eq_false, not_false_eq_true, false_and, and_false, Option.bind_some, zq_t, zq_f, zq0, zq1, zw_id] <;> omega
      · rw [o1 j (by omega), o2 j (by omega)]; exact h3 j k' j1 (by omega) (by omega) k2
  · rw [zj_step_f g]
    exact ⟨h1, h2, fun j k' j1 j2 k1 k2 => h3 j k' j1 j2 (by omega) k2⟩
theorem zj_gd_fold (hF : ∀ j, 0 ≤ j → j < N → (0 ≤ F 1 j ∧ F 1 j < F 2 j ∧ F 2 j < m) ∧ 0 ≤ F 3 j ∧ F 3 j ≤ 1) (hn : ∀ j k, 0 ≤ j → j < k → k < N → zf_nest (F 1 j) (F 2 j) (F 1 k) (F 2 k)) (hl : 0 ≤ l ∧ l + 1 < m) : ∀ k : Nat, (k : Int) ≤ N → zj_gd F l m N k (zj_fold F l k)
  | 0, _ => by
    refine ⟨fun j j1 j2 => ?_, fun i j i1 i2 i3 => ?_, fun j k' j1 j2 k1 k2 => ?_⟩
    · have : j < 0 := j2
      omega
    · have : j < 0 := i3
      omega
    · have : j < 0 := j2
      omega
  | k + 1, hk => by
    have ih := zj_gd_fold hF hn hl k (by omega)
    have := zj_gd_step hF hn hl (k := k) (by omega) (zj_fold_c k).1 ih
    rw [show ((k + 1 : Nat) : Int) = (k : Int) + 1 by omega]
    exact this
/-- the row of the reference holds what is kept -/
def zj_row (Q0 Q : Int → Int) (p : Int × zI) : Prop := Q 493 = p.1 ∧ (∀ j, 0 ≤ j → j < p.1 → Q (494 + 3 * j) = p.2 1 j ∧ Q (495 + 3 * j) = p.2 2 j ∧ Q (496 + 3 * j) = p.2 3 j) ∧ ∀ j, (j < 493 ∨ 518 ≤ j) → Q j = Q0 j
theorem zj_row_ag {p : Int × zI} (h : zj_row Q0 Q p) : zt_ag Q x y ↔ zj_cl p.2 p.1 x y := by
  obtain ⟨h1, h2, -⟩ := h
  constructor
  · rintro ⟨k, ⟨k1, k2⟩, q⟩
    rw [h1] at k2
    obtain ⟨e1, e2, -⟩ := h2 k k1 k2
    rw [e1, e2] at q
    exact ⟨k, ⟨k1, k2⟩, q⟩
  · rintro ⟨k, ⟨k1, k2⟩, q⟩
    obtain ⟨e1, e2, -⟩ := h2 k k1 k2
    exact ⟨k, ⟨k1, by rw [h1]; exact k2⟩, by rw [e1, e2]; exact q⟩
theorem zj_row_pos {p : Int × zI} (h : zj_row Q0 Q p) (h0 : 0 ≤ p.1) (hg : ∀ j, 0 ≤ j → j < p.1 → p.2 1 j < p.2 2 j) (hx : x < y) (ho : ∀ j, 0 ≤ j → j < p.1 → (p.2 1 j ≤ x ∧ y ≤ p.2 2 j) ∨ p.2 2 j ≤ x) : zt_pos Q x y = p.1 := by
  obtain ⟨h1, h2, -⟩ := h
  obtain ⟨⟨a1, a2⟩, a3, -⟩ := zt_pos_b (P := Q) (x := x) (y := y) (by rw [h1]; exact h0)
  rw [h1] at a2 a3
  by_cases e : zt_pos Q x y = p.1
  · exact e
  · exfalso
    have q := a3 _ (Int.le_refl _) (by omega)
    obtain ⟨e1, e2, -⟩ := h2 (zt_pos Q x y) a1 (by omega)
    rw [e1, e2] at q
    have o := ho _ a1 (by omega)
    have g := hg _ a1 (by omega)
    unfold zf_ahead at q
    omega
theorem zj_row_t {p : Int × zI} {v : Int} (h : zj_row Q0 Q p) (h0 : 0 ≤ p.1 ∧ p.1 < 8) : zj_row Q0 (zt_fins Q p.1 p.1 x y v) (p.1 + 1, zj_app p.2 p.1 x y v) := by
  obtain ⟨h1, h2, h3⟩ := h
  refine ⟨zt_fins_n, fun j j1 j2 => ?_, fun j hj => by rw [zt_fins_lo (by omega) hj]; exact h3 j hj⟩
  dsimp only at j2 ⊢
  by_cases e : j = p.1
  · subst e
    rw [zt_fins_x h0.1, zt_fins_y h0.1, zt_fins_v h0.1]
    unfold zj_app
    refine ⟨?_, ?_, ?_⟩
    · rw [zu_ne (by omega), zu_ne (by omega), zu_eq ⟨rfl, rfl⟩]
    · rw [zu_ne (by omega), zu_eq ⟨rfl, rfl⟩]
    · rw [zu_eq ⟨rfl, rfl⟩]
  · obtain ⟨e1, e2, e3⟩ := h2 j j1 (by omega)
    rw [zt_fins_l (by omega) (by omega), zt_fins_l (by omega) (by omega), zt_fins_l (by omega) (by omega), e1, e2, e3]
    unfold zj_app
    refine ⟨?_, ?_, ?_⟩ <;> rw [zu_ne (by omega), zu_ne (by omega), zu_ne (by omega)]
theorem zy_jf118_t (hm : zs_mo S R M) {p : Int × zI} (hr : zj_row Q0 (I (M + 1)) p) (hp : 0 ≤ p.1 ∧ p.1 < 8) (hg : ∀ j, 0 ≤ j → j < p.1 → p.2 1 j < p.2 2 j) (ho : ∀ j, 0 ≤ j → j < p.1 → (p.2 1 j ≤ x ∧ y ≤ p.2 2 j) ∨ p.2 2 j ≤ x) (hk : 0 ≤ k ∧ k < 8) (hv : I (M + 2) (496 + 3 * k) = v) (hyz : zi_w (z - b) = y) (hxy : x < y) (hcl : ¬ zj_cl p.2 p.1 x y) {w' : Nat} : zi_run zt_219 (zG (d + 3)) (w' + 1) 118 [some (.inr (.inr M)), some (.inl l), some (.inl N), some (.inl k), some (.inl x), none] [.inl b, .inl z] (S, I, R, T) = zi_run zt_219 (zG (d + 3)) w' 54 [some (.inr (.inr M)), some (.inl l), some (.inl N), some (.inl (k + 1)), none, none] [] (S, zt_row I (M + 1) (zt_fins (I (M + 1)) p.1 p.1 x y v), R, T) := by
  have h1 := zmo_1 hm
  have M0 := hm.1.1
  have pos := zj_row_pos hr hp.1 hg hxy ho
  have r1 := hr.1
  have ag := fun d => zy_against (d := d) (R := R) (T := T) (p := M + 1) (I := I) (S := S) ⟨by omega, zmo_s1 hm⟩ (by rw [r1]; omega) (fun k k1 k2 => by
    rw [r1] at k2
    obtain ⟨e1, e2, -⟩ := hr.2.1 k k1 k2
    rw [e1, e2]; exact hg k k1 k2) hxy
  have nag : ¬ zt_ag (I (M + 1)) x y := fun q => hcl ((zj_row_ag hr).mp q)
  have cm := fun d => zy_comes (d := d) (R := R) (T := T) (p := M + 1) (I := I) (S := S) (x := x) (y := y) (v := v) ⟨by omega, zmo_s1 hm⟩ (by rw [r1]; exact hp)
  simp only [pos, r1] at cm
  have e6 : 494 + 3 * k + 2 = 496 + 3 * k := by omega
  rw [zk_219_118]
  ((try simp only [zbd_conv]); simp (disch := first | assumption | omega | trivial) only [↓reduceIte, zbd_some, eq_self, Int.reduceEq, Int.reduceLT, Int.reduceLE, and_self, or_true, true_or, or_false, false_or, if_pos, if_neg, if_true, if_false, true_and, and_true, not_true_eq_false, not_false_eq_true, false_and, and_false, Option.bind_some, zq_t, zq_f, zq0, zq1, zw_id, hyz, h1, zmo_r0 hm, zmo_r1 hm, zmo_s2 hm, ag, nag, e6, hv, cm])
theorem zy_jf118_f (hm : zs_mo S R M) {p : Int × zI} (hr : zj_row Q0 (I (M + 1)) p) (hp : 0 ≤ p.1 ∧ p.1 < 8) (hg : ∀ j, 0 ≤ j → j < p.1 → p.2 1 j < p.2 2 j) (hk : 0 ≤ k ∧ k < 8) (hyz : zi_w (z - b) = y) (hno : ¬ (x < y ∧ ¬ zj_cl p.2 p.1 x y)) {w' : Nat} : zi_run zt_219 (zG (d + 3)) (w' + 1) 118 [some (.inr (.inr M)), some (.inl l), some (.inl N), some (.inl k), some (.inl x), none] [.inl b, .inl z] (S, I, R, T) = zi_run zt_219 (zG (d + 3)) w' 54 [some (.inr (.inr M)), some (.inl l), some (.inl N), some (.inl (k + 1)), none, none] [] (S, I, R, T) := by
  have h1 := zmo_1 hm
  have M0 := hm.1.1
  have r1 := hr.1
  rw [zk_219_118]
  by_cases hxy : x < y
  · have hcl : zj_cl p.2 p.1 x y := Classical.byContradiction fun q => hno ⟨hxy, q⟩
    have ag := fun d => zy_against (d := d) (R := R) (T := T) (p := M + 1) (I := I) (S := S) ⟨by omega, zmo_s1 hm⟩ (by rw [r1]; omega) (fun k k1 k2 => by
      rw [r1] at k2
      obtain ⟨e1, e2, -⟩ := hr.2.1 k k1 k2
      rw [e1, e2]; exact hg k k1 k2) hxy
    have nag : zt_ag (I (M + 1)) x y := (zj_row_ag hr).mpr hcl
    ((try simp only [zbd_conv]); simp (disch := first | assumption | omega | trivial) only [↓reduceIte, zbd_some, eq_self, Int.reduceEq, Int.reduceLT, Int.reduceLE, and_self, or_true, true_or, or_false, false_or, if_pos, if_neg, if_true, if_false, true_and, and_true, not_true_eq_false, not_false_eq_true, false_and, and_false, Option.bind_some, zq_t, zq_f, zq0, zq1, zw_id, hyz, h1, zmo_r0 hm, ag, nag])
  · ((try simp only [zbd_conv]); simp (disch := first | assumption | omega | trivial) only [↓reduceIte, zbd_some, eq_self, Int.reduceEq, Int.reduceLT, Int.reduceLE, and_self, or_true, true_or, or_false, false_or, if_pos, if_neg, if_true, if_false, true_and, and_true, not_true_eq_false, not_false_eq_true, false_and, and_false, Option.bind_some, zq_t, zq_f, zq0, zq1, zw_id, hyz])
theorem zy_jfloop (hm : zs_mo S R M) (hF : ∀ j, 0 ≤ j → j < N → (0 ≤ F 1 j ∧ F 1 j < F 2 j ∧ F 2 j < m) ∧ 0 ≤ F 3 j ∧ F 3 j ≤ 1) (hn : ∀ j k, 0 ≤ j → j < k → k < N → zf_nest (F 1 j) (F 2 j) (F 1 k) (F 2 k)) (hl : 0 ≤ l ∧ l + 1 < m ∧ m ≤ 12) (hN : 0 ≤ N ∧ N ≤ 8) : ∀ (u k : Nat) (Qk : Int → Int), (u : Int) + k = N → zj_row Q0 Qk (zj_fold F l k) → ∃ Q, zj_row Q0 Q (zj_fold F l N.toNat) ∧ ∀ (w' : Nat) (I : zI), 2 * u < w' → I (M + 1) = Qk → (∀ j, 0 ≤ j → j < N → I (M + 2) (494 + 3 * j) = F 1 j ∧ I (M + 2) (495 + 3 * j) = F 2 j ∧ I (M + 2) (496 + 3 * j) = F 3 j) → zi_run zt_219 (zG (d + 3)) w' 54 [some (.inr (.inr M)), some (.inl l), some (.inl N), some (.inl (k : Int)), none, none] [] (S, I, R, T) = some (0, (S, zt_row I (M + 1) Q, R, T)) := by
  have h1 := zmo_1 hm
  intro u
  induction u with
  | zero =>
    intro k Qk k1 hr
    refine ⟨Qk, by rw [show N.toNat = k by omega]; exact hr, fun w' I k2 hQ hD => ?_⟩
    obtain ⟨w', rfl⟩ : ∃ w'', w' = w'' + 1 := ⟨w' - 1, by omega⟩
    rw [zk_219_54, ← hQ, zt_row_self]
    ((try simp only [zbd_conv]); simp (disch := first | assumption | omega | trivial) only [↓reduceIte, zbd_some, eq_self, Int.reduceEq, Int.reduceLT, Int.reduceLE, and_self, or_true, true_or, or_false, false_or, if_pos, if_neg, if_true, if_false, true_and, and_true, not_true_eq_false, not_false_eq_true, false_and, and_false, Option.bind_some, zq_t, zq_f, zq0, zq1, zw_id])
  | succ u ih =>
    intro k Qk k1 hr
    obtain ⟨g1, g2, g3⟩ := zj_gd_fold hF hn ⟨hl.1, hl.2.1⟩ k (by omega)
    have fc := zj_fold_c (F := F) (l := l) k
    obtain ⟨f1, f2⟩ := hF k (by omega) (by omega)
    have e5 : 494 + 3 * (k : Int) + 1 = 495 + 3 * k := by omega
    obtain ⟨x, hx⟩ : ∃ x, zj_x l (F 1 k) = x := ⟨_, rfl⟩
    obtain ⟨y, hy⟩ : ∃ y, zj_x l (F 2 k) = y := ⟨_, rfl⟩
    have g3' := fun j j1 j2 => g3 j k j1 j2 (Int.le_refl _) (by omega)
    rw [hx, hy] at g3'
    have st : ∀ (w' : Nat) (I : zI), I (M + 2) (494 + 3 * (k : Int)) = F 1 k → I (M + 2) (495 + 3 * (k : Int)) = F 2 k → zi_run zt_219 (zG (d + 3)) (w' + 1 + 1) 54 [some (.inr (.inr M)), some (.inl l), some (.inl N), some (.inl (k : Int)), none, none] [] (S, I, R, T) = zi_run zt_219 (zG (d + 3)) (w' + 1) 118 [some (.inr (.inr M)), some (.inl l), some (.inl N), some (.inl (k : Int)), some (.inl x), none] [.inl (if l < F 2 k then 1 else 0), .inl (F 2 k)] (S, I, R, T) := fun w' I d1 d2 => by
      rw [zj_x_at] at hx
      rw [zk_219_54]
      by_cases a1 : l < F 1 k <;> by_cases a2 : l < F 2 k
      · rw [if_pos a1] at hx
        rw [if_pos a2]
        ((try simp only [zbd_conv]); simp (disch := first | assumption | omega | trivial) only [↓reduceIte, zbd_some, eq_self, Int.reduceEq, Int.reduceLT, Int.reduceLE, and_self, or_true, true_or, or_false, false_or, if_pos, if_neg, if_true, if_false, true_and, and_true, not_true_eq_false, not_false_eq_true, false_and, and_false, Option.bind_some, zq_t, zq_f, zq0, zq1, zw_id, h1, zmo_r1 hm, zmo_s2 hm, d1, d2, e5, hx])
      · exfalso; omega
      · rw [if_neg a1] at hx
        rw [if_pos a2]
        ((try simp only [zbd_conv]); simp (disch := first | assumption | omega | trivial) only [↓reduceIte, zbd_some, eq_self, Int.reduceEq, Int.reduceLT, Int.reduceLE, and_self, or_true, true_or, or_false, false_or, if_pos, if_neg, if_true, if_false, true_and, and_true, not_true_eq_false, not_false_eq_true, false_and, and_false, Option.bind_some, zq_t, zq_f, zq0, zq1, zw_id, h1, zmo_r1 hm, zmo_s2 hm, d1, d2, e5, Int.sub_zero, hx])
      · rw [if_neg a1] at hx
        rw [if_neg a2]
        ((try simp only [zbd_conv]); simp (disch := first | assumption | omega | trivial) only [↓reduceIte, zbd_some, eq_self, Int.reduceEq, Int.reduceLT, Int.reduceLE, and_self, or_true, true_or, or_false, false_or, if_pos, if_neg, if_true, if_false, true_and, and_true, not_true_eq_false, not_false_eq_true, false_and, and_false, Option.bind_some, zq_t, zq_f, zq0, zq1, zw_id, h1, zmo_r1 hm, zmo_s2 hm, d1, d2, e5, Int.sub_zero, hx])
    have hyz : zi_w (F 2 k - (if l < F 2 k then 1 else 0)) = y := by
      rw [zj_x_at] at hy
      by_cases a2 : l < F 2 k
      · rw [if_pos a2] at hy ⊢; rw [zw_id (by omega) (by omega)]; exact hy
      · rw [if_neg a2] at hy ⊢; rw [zw_id (by omega) (by omega)]; omega
    have ek : ((k + 1 : Nat) : Int) = (k : Int) + 1 := by omega
    by_cases g : x < y ∧ ¬ zj_cl (zj_fold F l k).2 (zj_fold F l k).1 x y
    · obtain ⟨Q, q2, q1⟩ := ih (k + 1) (zt_fins Qk (zj_fold F l k).1 (zj_fold F l k).1 x y (F 3 k)) (by omega) (by
        show zj_row Q0 _ (zj_step F l k (zj_fold F l k))
        rw [zj_step_t (by rw [hx, hy]; exact g), hx, hy]
        exact zj_row_t hr (by omega))
      refine ⟨Q, q2, fun w' I k2 hQ hD => ?_⟩
      obtain ⟨w', rfl⟩ : ∃ w'', w' = w'' + 1 + 1 := ⟨w' - 2, by omega⟩
      obtain ⟨d1, d2, d3⟩ := hD k (by omega) (by omega)
      rw [st w' I d1 d2, zy_jf118_t hm (Q0 := Q0) (by rw [hQ]; exact hr) (by omega) (fun j j1 j2 => (g1 j j1 j2).1.2.1) g3' (by omega) d3 hyz g.1 g.2, hQ]
      have := q1 w' (zt_row I (M + 1) (zt_fins Qk (zj_fold F l k).1 (zj_fold F l k).1 x y (F 3 k))) (by omega) zt_row_eq (by rw [zt_row_off (by omega)]; exact hD)
      rw [ek, zt_row_row] at this
      exact this
    · obtain ⟨Q, q2, q1⟩ := ih (k + 1) Qk (by omega) (by
        show zj_row Q0 _ (zj_step F l k (zj_fold F l k))
        rw [zj_step_f (by rw [hx, hy]; exact g)]
        exact hr)
      refine ⟨Q, q2, fun w' I k2 hQ hD => ?_⟩
      obtain ⟨w', rfl⟩ : ∃ w'', w' = w'' + 1 + 1 := ⟨w' - 2, by omega⟩
      obtain ⟨d1, d2, d3⟩ := hD k (by omega) (by omega)
      rw [st w' I d1 d2, zy_jf118_f hm (Q0 := Q0) (by rw [hQ]; exact hr) (by omega) (fun j j1 j2 => (g1 j j1 j2).1.2.1) (by omega) hyz g]
      have := q1 w' I (by omega) hQ hD
      rw [ek] at this
      exact this
theorem zy_joinsFolds (hm : zs_mo S R M) (hF : ∀ j, 0 ≤ j → j < N → (0 ≤ F 1 j ∧ F 1 j < F 2 j ∧ F 2 j < m) ∧ 0 ≤ F 3 j ∧ F 3 j ≤ 1) (hn : ∀ j k, 0 ≤ j → j < k → k < N → zf_nest (F 1 j) (F 2 j) (F 1 k) (F 2 k)) (hl : 0 ≤ l ∧ l + 1 < m ∧ m ≤ 12) (hN0 : Q0 493 = N) (hN : 0 ≤ N ∧ N ≤ 8) (hD : ∀ j, 0 ≤ j → j < N → Q0 (494 + 3 * j) = F 1 j ∧ Q0 (495 + 3 * j) = F 2 j ∧ Q0 (496 + 3 * j) = F 3 j) : ∃ Q, zj_row Q0 Q (zj_fold F l N.toNat) ∧ ∀ I : zI, I (M + 1) = Q0 → ∃ D, zG (d + 4) 219 [.inr (.inr M), .inl l] (S, I, R, T) = some (0, (S, zt_row (zt_row I (M + 2) D) (M + 1) Q, R, T)) := by
  have h1 := zmo_1 hm
  obtain ⟨Q, q2, q1⟩ := zy_jfloop (d := d) (T := T) (Q0 := Q0) hm hF hn hl hN N.toNat 0 (zt_up Q0 493 0) (by omega) ⟨zt_up_eq rfl, fun j j1 j2 => by have : j < 0 := j2; omega, fun j hj => zt_up_ne (by omega)⟩
  refine ⟨Q, q2, fun I hQ => ?_⟩
  have qN : I (M + 1) 493 = N := by rw [hQ, hN0]
  obtain ⟨D, hDD⟩ : ∃ D : Int → Int, D = fun j => if 494 ≤ j ∧ j < 518 then Q0 j else I (M + 2) j := ⟨_, rfl⟩
  refine ⟨D, ?_⟩
  have key : ∀ (u : Nat) (k : Int) (w' : Nat), (u : Int) + k = 24 → 0 ≤ k → u + 30 < w' → zi_run zt_219 (zG (d + 3)) w' 11 [some (.inr (.inr M)), some (.inl l), some (.inl N), some (.inl k), none, none] [] (S, zt_row I (M + 2) (fun j => if 494 ≤ j ∧ j < 494 + k then Q0 j else I (M + 2) j), R, T) = some (0, (S, zt_row (zt_row I (M + 2) D) (M + 1) Q, R, T)) := by
    intro u
    induction u with
    | zero =>
      intro k w' k1 k2 k3
      obtain ⟨w', rfl⟩ : ∃ w'', w' = w'' + 1 := ⟨w' - 1, by omega⟩
      obtain rfl : k = 24 := by omega
      have eD : (fun j => if 494 ≤ j ∧ j < (494 : Int) + 24 then Q0 j else I (M + 2) j) = D := hDD.symm
      rw [eD]
      have q1' := q1 w' (zi_up (zt_row I (M + 2) D) (M + 1) 493 0) (by omega) (by rw [zu_row, zt_row_off (by omega), hQ]) (fun j j1 j2 => by
        rw [zu_off (by omega), zt_row_eq, hDD]; dsimp only
        rw [if_pos (by omega), if_pos (by omega), if_pos (by omega)]
        exact hD j j1 j2)
      rw [zt_row_up0, zt_row_row] at q1'
      rw [zk_219_11]
      ((try simp only [zbd_conv]); simp (disch := first | assumption | omega | trivial) only [↓reduceIte, zbd_some, eq_self, Int.reduceEq, Int.reduceLT, Int.reduceLE, and_self, or_true, true_or, or_false, false_or, if_pos, if_neg, if_true, if_false, true_and, and_true, not_true_eq_false, not_false_eq_true, false_and, and_false, Option.bind_some, zq_t, zq_f, zq0, zq1, zw_id, h1, zmo_r0 hm, zmo_s1 hm, zwr])
      rw [zt_row_up0]
      exact q1'
    | succ u ih =>
      intro k w' k1 k2 k3
      obtain ⟨w', rfl⟩ : ∃ w'', w' = w'' + 1 := ⟨w' - 1, by omega⟩
      have rd : zt_row I (M + 2) (fun j => if 494 ≤ j ∧ j < 494 + k then Q0 j else I (M + 2) j) (M + 1) = Q0 := by rw [zt_row_off (by omega), hQ]
      rw [zk_219_11]
      ((try simp only [zbd_conv]); simp (disch := first | assumption | omega | trivial) only [↓reduceIte, zbd_some, eq_self, Int.reduceEq, Int.reduceLT, Int.reduceLE, and_self, or_true, true_or, or_false, false_or, if_pos, if_neg, if_true, if_false, true_and, and_true, not_true_eq_false, not_false_eq_true, false_and, and_false, Option.bind_some, zq_t, zq_f, zq0, zq1, zw_id, h1, zmo_r0 hm, zmo_s1 hm, zmo_r1 hm, zmo_s2 hm, rd, zwr, zt_row_up])
      refine zr_mem (congrArg (zt_row I (M + 2)) ?_) (ih (k + 1) w' (by omega) (by omega) (by omega))
      funext j
      rw [zt_up_at]
      by_cases g1 : j = 494 + k
      · rw [if_pos g1, if_pos (by omega), g1]
      · rw [if_neg g1]
        by_cases g2 : 494 ≤ j ∧ j < 494 + k
        · rw [if_pos g2, if_pos (by omega)]
        · rw [if_neg g2, if_neg (by omega)]
  have k24 := key 24 0 19999 (by omega) (by omega) (by omega)
  rw [zm_219]
  ((try simp only [zbd_conv]); simp (disch := first | assumption | omega | trivial) only [↓reduceIte, zbd_some, eq_self, Int.reduceEq, Int.reduceLT, Int.reduceLE, and_self, or_true, true_or, or_false, false_or, if_pos, if_neg, if_true, if_false, true_and, and_true, not_true_eq_false, not_false_eq_true, false_and, and_false, Option.bind_some, zq_t, zq_f, zq0, zq1, zw_id, h1, zmo_r0 hm, zmo_s1 hm, qN])
  refine zr_mem ?_ k24
  refine Eq.trans zt_row_self.symm (congrArg (zt_row I (M + 2)) ?_)
  funext j
  rw [if_neg (by omega)]
end ZJm
