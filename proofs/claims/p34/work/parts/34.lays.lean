/-! the reference: a line is laid -/
def zr_mo (I : zI) (a : Int) : Prop := (4 ≤ I a 6 ∧ I a 6 ≤ 40) ∧ (1 ≤ I a 7 ∧ I a 7 ≤ 8) ∧ (0 ≤ I a 8 ∧ I a 8 ≤ 2) ∧ 0 ≤ I a 9 ∧ I a 9 ≤ 7
def zm_ce (t c i col : Int) : Int := if c = 9 then t - col % t else if c = 126 then (if i = 0 then 1 else 0) else if 65 ≤ c ∧ c ≤ 90 then 2 else 1
/-- what the laying of a line may change -/
def zo_ly (I J : zI) (a : Int) : Prop := (∀ x, x ≠ a → (x < a + 7 ∨ a + 11 < x) → J x = I x) ∧ ∀ j, j ≠ 22 → j ≠ 23 → J a j = I a j
theorem zo_ly_refl {I : zI} {a : Int} : zo_ly I I a := ⟨fun _ _ _ => rfl, fun _ _ _ => rfl⟩
theorem zo_ly_trans {I J K : zI} {a : Int} (h1 : zo_ly I J a) (h2 : zo_ly J K a) : zo_ly I K a := ⟨fun x a b => (h2.1 x a b).trans (h1.1 x a b), fun j a b => (h2.2 j a b).trans (h1.2 j a b)⟩
theorem zo_ly_mo {I J : zI} {a : Int} (h : zo_ly I J a) (hr : zr_mo I a) : zr_mo J a := by
  unfold zr_mo at *
  rw [h.2 6 (by omega) (by omega), h.2 7 (by omega) (by omega), h.2 8 (by omega) (by omega), h.2 9 (by omega) (by omega)]
  exact hr
/-- rr rows are laid, and of the next one, that begins at B rr, what is ahead of i -/
def zl_jnv (n w t m ind : Int) (s rA cA ceA hA rB : Int → Int) (rr : Int) (B : Int → Int) (i : Int) : Prop :=
  B 0 = 0 ∧ (∀ q, 0 ≤ q → q ≤ rr → 0 ≤ B q ∧ B q ≤ n) ∧ ((0 < n → rr ≤ B rr ∧ B rr < n) ∧ (n = 0 → rr = 0)) ∧ (∀ q, 0 ≤ q → q ≤ rr → rB q = B q) ∧ (∀ q, 0 ≤ q → q < rr → B q < B (q + 1)) ∧
  (∀ q, 0 ≤ q → q < rr → ∃ j, zl_stop n w t m s (B q) (zl_c0 ind q) j ∧ zl_end n m s (B q) j (B (q + 1))) ∧
  (∀ q, 0 ≤ q → q < rr → zl_row w t m s ind q (B q) (B (q + 1)) rA cA ceA hA) ∧
  (B rr ≤ i ∧ i ≤ n) ∧ zl_row w t m s ind rr (B rr) i rA cA ceA hA ∧ ∀ k, B rr ≤ k → k < i → zl_ok1 w t m (s k) k (zl_at w t m s (B rr) (zl_c0 ind rr) k)
theorem zl_jnv_sign {n w t m ind rr i c y o : Int} {s rA cA ceA hA rB B : Int → Int} (h : zl_jnv n w t m ind s rA cA ceA hA rB rr B i) (hr : 0 ≤ rr) (hi : i < n) (hc : c = zl_at w t m s (B rr) (zl_c0 ind rr) i) (hy : y = zl_eff w t m (s i) i c) (ho : o = if zl_fitb w t m (s i) i c then 0 else 1) (hok : zl_ok1 w t m (s i) i c) :
    zl_jnv n w t m ind s (zt_up rA i rr) (zt_up cA i c) (zt_up ceA i y) (zt_up hA i o) rB rr B (i + 1) := by
  obtain ⟨p1, p2, p3, p4, p5, p6, p7, p8, p9, p10⟩ := h
  subst hc
  have mono : ∀ q, 0 ≤ q → q < rr → B (q + 1) ≤ B rr := by
    have key : ∀ k : Nat, ∀ q, 0 ≤ q → q + 1 + k = rr → B (q + 1) ≤ B rr := by
      intro k
      induction k with
      | zero => intro q q1 q2; rw [show q + 1 = rr by omega]; exact Int.le_refl _
      | succ k ih =>
        intro q q1 q2
        have := ih (q + 1) (by omega) (by omega)
        have := p5 (q + 1) (by omega) (by omega)
        omega
    intro q q1 q2
    exact key (rr - (q + 1)).toNat q q1 (by omega)
  refine ⟨p1, p2, p3, p4, p5, p6, fun q q1 q2 k k1 k2 => ?_, by omega, fun k k1 k2 => ?_, fun k k1 k2 => ?_⟩
  · have := mono q q1 q2
    rw [zt_up_ne (by omega), zt_up_ne (by omega), zt_up_ne (by omega), zt_up_ne (by omega)]
    exact p7 q q1 q2 k k1 k2
  · by_cases g : k = i
    · subst g
      rw [zt_up_eq rfl, zt_up_eq rfl, zt_up_eq rfl, zt_up_eq rfl]
      exact ⟨rfl, rfl, hy, ho⟩
    · rw [zt_up_ne g, zt_up_ne g, zt_up_ne g, zt_up_ne g]
      exact p9 k k1 (by omega)
  · by_cases g : k = i
    · subst g; exact hok
    · exact p10 k k1 (by omega)
theorem zl_jnv_row {n w t m ind rr i e : Int} {s rA cA ceA hA rB B : Int → Int} (h : zl_jnv n w t m ind s rA cA ceA hA rB rr B i) (hr : 0 ≤ rr) (hi : i < n) (hw : 4 ≤ w) (ht : 1 ≤ t) (hind : 0 ≤ ind ∧ ind ≤ w / 2) (hno : ¬ zl_ok1 w t m (s i) i (zl_at w t m s (B rr) (zl_c0 ind rr) i)) (he : zl_end n m s (B rr) i e) :
    (B rr < e ∧ e ≤ i) ∧ zl_jnv n w t m ind s rA cA ceA hA (zt_up rB (rr + 1) e) (rr + 1) (fun q => if q ≤ rr then B q else e) e := by
  obtain ⟨p1, p2, p3, p4, p5, p6, p7, p8, p9, p10⟩ := h
  have hc0 : 0 ≤ zl_c0 ind rr ∧ zl_c0 ind rr ≤ w / 2 := by unfold zl_c0; split <;> omega
  have pr := p2 rr hr (Int.le_refl _)
  have hbi : B rr < i := by
    by_cases q : B rr = i
    · exfalso
      rw [← q, zl_at_self] at hno
      exact hno (zl_first_ok hw ht hc0)
    · omega
  have hbe : B rr < e ∧ e ≤ i := by
    rcases he with z | ⟨_, z | z⟩ <;> omega
  have e1 : ∀ q, 0 ≤ q → q < rr → (fun q => if q ≤ rr then B q else e) q = B q := fun q q1 q2 => if_pos (by omega)
  have e2 : ∀ q, 0 ≤ q → q < rr → (fun q => if q ≤ rr then B q else e) (q + 1) = B (q + 1) := fun q q1 q2 => if_pos (by omega)
  have e3 : (fun q => if q ≤ rr then B q else e) rr = B rr := if_pos (by omega)
  have e4 : (fun q => if q ≤ rr then B q else e) (rr + 1) = e := if_neg (by omega)
  refine ⟨hbe, ?_, fun q q1 q2 => ?_, ?_, fun q q1 q2 => ?_, fun q q1 q2 => ?_, fun q q1 q2 => ?_, fun q q1 q2 => ?_, ?_, fun k k1 k2 => ?_, fun k k1 k2 => ?_⟩
  · show (if (0 : Int) ≤ rr then B 0 else e) = 0
    rw [if_pos hr, p1]
  · by_cases g : q = rr + 1
    · rw [g, e4]; omega
    · show 0 ≤ (if q ≤ rr then B q else e) ∧ (if q ≤ rr then B q else e) ≤ n
      rw [if_pos (by omega)]
      exact p2 q q1 (by omega)
  · rw [e4]
    exact ⟨fun hn => by have := p3.1 hn; omega, fun hn => by omega⟩
  · by_cases g : q = rr + 1
    · rw [zt_up_eq g, g, e4]
    · rw [zt_up_ne g]
      show _ = if q ≤ rr then B q else e
      rw [if_pos (by omega)]
      exact p4 q q1 (by omega)
  · by_cases g : q = rr
    · subst g
      rw [e3, e4]
      omega
    · rw [e1 q q1 (by omega), e2 q q1 (by omega)]
      exact p5 q q1 (by omega)
  · by_cases g : q = rr
    · subst g
      rw [e3, e4]
      exact ⟨i, ⟨by omega, hi, p10, hno⟩, he⟩
    · rw [e1 q q1 (by omega), e2 q q1 (by omega)]
      exact p6 q q1 (by omega)
  · by_cases g : q = rr
    · subst g
      rw [e3, e4]
      exact fun k k1 k2 => p9 k k1 (by omega)
    · rw [e1 q q1 (by omega), e2 q q1 (by omega)]
      exact p7 q q1 (by omega)
  · rw [e4]; omega
  · rw [e4] at k1; omega
  · rw [e4] at k1; omega
theorem zl_jnv_ok {n w t m ind rr : Int} {s rA cA ceA hA rB B : Int → Int} (h : zl_jnv n w t m ind s rA cA ceA hA rB rr B n) (hr : 0 ≤ rr) (hn : 0 ≤ n) : zl_ok n w t m ind s (rr + 1) (zt_up rA n rr) (zt_up cA n (zl_at w t m s (B rr) (zl_c0 ind rr) n)) (zt_up ceA n 0) (zt_up hA n 0) (zt_up rB (rr + 1) n) := by
  obtain ⟨p1, p2, p3, p4, p5, p6, p7, p8, p9, p10⟩ := h
  have pr := p2 rr hr (Int.le_refl _)
  have hB : ∀ q, 0 ≤ q → q ≤ rr → zt_up rB (rr + 1) n q = B q := fun q q1 q2 => by rw [zt_up_ne (by omega)]; exact p4 q q1 q2
  have hN : zt_up rB (rr + 1) n (rr + 1) = n := zt_up_eq rfl
  have hrn : rr ≤ n := by
    by_cases g : 0 < n
    · have := p3.1 g; omega
    · have := p3.2 (by omega); omega
  refine ⟨by omega, by rw [hB 0 (by omega) hr, p1], hN, fun q q1 q2 => ?_, fun q q1 q2 => ?_, fun i i1 i2 => ?_, fun q q1 q2 i i1 i2 => ?_, ?_, ?_⟩
  · by_cases g : q = rr
    · subst g
      rw [hB q q1 (Int.le_refl _), hN]
      exact ⟨pr.2, fun z => (p3.1 z).2⟩
    · have := p5 q q1 (by omega)
      rw [hB q q1 (by omega), hB (q + 1) (by omega) (by omega)]
      exact ⟨by omega, fun _ => this⟩
  · rw [hB q q1 (by omega), hB (q + 1) (by omega) (by omega)]
    exact p6 q q1 (by omega)
  · rw [show rr + 1 - 1 = rr by omega, hB rr hr (Int.le_refl _)] at i1 ⊢
    exact p10 i i1 i2
  · by_cases g : q = rr
    · subst g
      rw [hB q q1 (Int.le_refl _)] at i1 ⊢
      rw [hN] at i2
      rw [zt_up_ne (by omega), zt_up_ne (by omega), zt_up_ne (by omega), zt_up_ne (by omega)]
      exact p9 i i1 i2
    · rw [hB q q1 (by omega)] at i1 ⊢
      rw [hB (q + 1) (by omega) (by omega)] at i2
      have := p2 (q + 1) (by omega) (by omega)
      rw [zt_up_ne (by omega), zt_up_ne (by omega), zt_up_ne (by omega), zt_up_ne (by omega)]
      exact p7 q q1 (by omega) i i1 i2
  · rw [zt_up_eq rfl]; omega
  · rw [zt_up_eq rfl, show rr + 1 - 1 = rr by omega, hB rr hr (Int.le_refl _)]
section ZMl
variable {d : Nat} {S : zS} {I J R : zI} {T : Int × Nat} {a b n v l f c m k x y z r i p col : Int} {s : Int → Int}
theorem zm_ce_eff {w t m c i col : Int} (hc : 0 ≤ col) (ht : 1 ≤ t) (hf : zl_fit w t m c i col) : (if m ≠ 0 ∧ c = 9 ∧ w < col + zm_ce t c i col then w - col else zm_ce t c i col) = zl_ce w t m c i col := by
  have m1 := Int.emod_nonneg col (show t ≠ 0 by omega)
  have m2 := Int.emod_lt_of_pos col (show 0 < t by omega)
  unfold zm_ce zl_ce
  by_cases g1 : c = 9
  · by_cases g2 : m = 0
    · rw [if_neg (show ¬ (m ≠ 0 ∧ c = 9 ∧ _) from fun z => z.1 g2), if_pos g1, if_neg (by omega), if_neg (by omega), if_pos g1, if_pos g2]
    · have hcw : col < w := by
        rcases hf with z | z | z <;> omega
      rw [if_pos g1, if_neg (show ¬ (65 ≤ c ∧ c ≤ 90) by omega), if_neg (show ¬ c = 126 by omega), if_pos g1, if_neg g2]
      by_cases g3 : w < col + (t - col % t)
      · rw [if_pos ⟨g2, g1, g3⟩]
        by_cases g4 : t - col % t < w - col
        · omega
        · rw [if_neg g4, if_pos (by omega)]
      · rw [if_neg (fun z => g3 z.2.2)]
        by_cases g4 : t - col % t < w - col
        · rw [if_pos g4]
        · rw [if_neg g4, if_pos (by omega)]; omega
  · rw [if_neg (show ¬ (m ≠ 0 ∧ c = 9 ∧ _) from fun z => g1 z.2.1), if_neg g1]
    by_cases g2 : c = 126
    · rw [if_pos g2, if_neg (show ¬ (65 ≤ c ∧ c ≤ 90) by omega), if_pos g2]
    · rw [if_neg g2]
      by_cases g3 : 65 ≤ c ∧ c ≤ 90
      · rw [if_pos g3, if_pos g3]
      · rw [if_neg g3, if_neg g3, if_neg g2, if_neg g1]
theorem zm_fit {w t m c i col : Int} (hm : 0 ≤ m) : zl_fit w t m c i col ↔ m = 0 ∨ (c = 9 ∧ col < w) ∨ (c ≠ 9 ∧ col + zm_ce t c i col ≤ w) := by
  unfold zl_fit
  have e : c ≠ 9 → zl_ce w t m c i col = zm_ce t c i col := by
    intro g1
    unfold zm_ce zl_ce
    by_cases g2 : c = 126
    · simp only [if_neg g1, if_pos g2, if_neg (show ¬ (65 ≤ c ∧ c ≤ 90) by omega)]
    · by_cases g3 : 65 ≤ c ∧ c ≤ 90
      · simp only [if_neg g1, if_neg g2, if_pos g3]
      · simp only [if_neg g1, if_neg g2, if_neg g3]
  constructor
  · rintro (q | q | ⟨q1, q2⟩)
    · exact Or.inl q
    · exact Or.inr (Or.inl q)
    · rw [e q1] at q2; exact Or.inr (Or.inr ⟨q1, q2⟩)
  · rintro (q | q | ⟨q1, q2⟩)
    · exact Or.inl q
    · exact Or.inr (Or.inl q)
    · rw [← e q1] at q2; exact Or.inr (Or.inr ⟨q1, q2⟩)
end ZMl
