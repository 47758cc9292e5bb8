/-! how a line is laid: what both sides come to -/
def zl_wide (c : Int) : Prop := 65 ≤ c ∧ c ≤ 90
def zl_gap (c : Int) : Prop := c = 32 ∨ c = 9
def zl_let (c : Int) : Prop := zl_gap c ∨ zl_wide c ∨ c = 45
theorem zl_wide_em (c : Int) : zl_wide c ∨ ¬ zl_wide c := Classical.em _
noncomputable def zl_dec (P : Prop) : Decidable P := Classical.propDecidable P
/-- cells of a sign at a place and a column -/
def zl_ce (w t m c i col : Int) : Int := if 65 ≤ c ∧ c ≤ 90 then 2 else if c = 126 then (if i = 0 then 1 else 0) else if c = 9 then (if m = 0 then t - col % t else if t - col % t < w - col then t - col % t else if 0 < w - col then w - col else 0) else 1
def zl_fit (w t m c i col : Int) : Prop := m = 0 ∨ (c = 9 ∧ col < w) ∨ (c ≠ 9 ∧ col + zl_ce w t m c i col ≤ w)
theorem zl_fit_iff (w t m c i col : Int) : zl_fit w t m c i col ↔ m = 0 ∨ (c = 9 ∧ col < w) ∨ (c ≠ 9 ∧ col + zl_ce w t m c i col ≤ w) := Iff.rfl
def zl_fitb (w t m c i col : Int) : Bool := decide (m = 0) || (decide (c = 9) && decide (col < w)) || (decide (c ≠ 9) && decide (col + zl_ce w t m c i col ≤ w))
theorem zl_fitb_iff {w t m c i col : Int} : zl_fitb w t m c i col = true ↔ zl_fit w t m c i col := by
  unfold zl_fitb zl_fit
  simp only [Bool.or_eq_true, Bool.and_eq_true, decide_eq_true_eq, or_assoc]
def zl_eff (w t m c i col : Int) : Int := if zl_fitb w t m c i col then zl_ce w t m c i col else 0
def zl_ok1 (w t m c i col : Int) : Prop := zl_fit w t m c i col ∨ zl_gap c
/-- the column behind k signs laid from a place on -/
def zl_col (w t m : Int) (s : Int → Int) (b c0 : Int) : Nat → Int
  | 0 => c0
  | k + 1 => zl_col w t m s b c0 k + zl_eff w t m (s (b + k)) (b + k) (zl_col w t m s b c0 k)
def zl_at (w t m : Int) (s : Int → Int) (b c0 i : Int) : Int := zl_col w t m s b c0 (i - b).toNat
theorem zl_at_self {w t m : Int} {s : Int → Int} {b c0 : Int} : zl_at w t m s b c0 b = c0 := by
  unfold zl_at
  rw [Int.sub_self]; rfl
theorem zl_at_succ {w t m : Int} {s : Int → Int} {b c0 i : Int} (h : b ≤ i) : zl_at w t m s b c0 (i + 1) = zl_at w t m s b c0 i + zl_eff w t m (s i) i (zl_at w t m s b c0 i) := by
  unfold zl_at
  obtain ⟨k, hk⟩ : ∃ k : Nat, i = b + k := ⟨(i - b).toNat, by omega⟩
  subst hk
  rw [show (b + k + 1 - b).toNat = k + 1 by omega, show (b + (k : Int) - b).toNat = k by omega]
  rfl
/-- the nearest sign ahead that is no mark -/
def zl_nr (s : Int → Int) : Nat → Int
  | 0 => 126
  | i + 1 => if s i = 126 then zl_nr s i else s i
def zl_brk (n : Int) (s : Int → Int) (i : Int) : Prop := 0 < i ∧ i < n ∧ s i ≠ 126 ∧ (zl_wide (s i) ∨ zl_let (zl_nr s i.toNat))
/-- where a row from b on ends, if the sign at j is too far -/
def zl_end (n m : Int) (s : Int → Int) (b j e : Int) : Prop := (m ≠ 2 ∧ e = j) ∨ (m = 2 ∧ ((b < e ∧ e ≤ j ∧ zl_brk n s e ∧ ∀ k, e < k → k ≤ j → ¬ zl_brk n s k) ∨ (e = j ∧ ∀ k, b < k → k ≤ j → ¬ zl_brk n s k)))
theorem zl_end_uniq {n m : Int} {s : Int → Int} {b j e e' : Int} (h : zl_end n m s b j e) (h' : zl_end n m s b j e') : e = e' := by
  rcases h with ⟨h1, h2⟩ | ⟨h1, h2⟩ <;> rcases h' with ⟨g1, g2⟩ | ⟨g1, g2⟩
  · omega
  · exact absurd g1 h1
  · exact absurd h1 g1
  · rcases h2 with ⟨a1, a2, a3, a4⟩ | ⟨a1, a2⟩ <;> rcases g2 with ⟨b1, b2, b3, b4⟩ | ⟨b1, b2⟩
    · rcases Int.lt_trichotomy e e' with q | q | q
      · exact absurd b3 (a4 e' q b2)
      · exact q
      · exact absurd a3 (b4 e q a2)
    · exact absurd a3 (b2 e a1 a2)
    · exact absurd b3 (a2 e' b1 b2)
    · omega
def zl_stop (n w t m : Int) (s : Int → Int) (b c0 j : Int) : Prop := b ≤ j ∧ j < n ∧ (∀ i, b ≤ i → i < j → zl_ok1 w t m (s i) i (zl_at w t m s b c0 i)) ∧ ¬ zl_ok1 w t m (s j) j (zl_at w t m s b c0 j)
theorem zl_stop_uniq {n w t m : Int} {s : Int → Int} {b c0 j j' : Int} (h : zl_stop n w t m s b c0 j) (h' : zl_stop n w t m s b c0 j') : j = j' := by
  obtain ⟨h1, h2, h3, h4⟩ := h
  obtain ⟨g1, g2, g3, g4⟩ := h'
  rcases Int.lt_trichotomy j j' with q | q | q
  · exact absurd (g3 j h1 q) h4
  · exact q
  · exact absurd (h3 j' g1 q) g4
def zl_c0 (ind r : Int) : Int := if r = 0 then 0 else ind
/-- a row r of a line: where it begins, where the next one does, and what is laid in it -/
def zl_row (w t m : Int) (s : Int → Int) (ind r b e : Int) (rA cA ceA hA : Int → Int) : Prop := ∀ i, b ≤ i → i < e → rA i = r ∧ cA i = zl_at w t m s b (zl_c0 ind r) i ∧ ceA i = zl_eff w t m (s i) i (zl_at w t m s b (zl_c0 ind r) i) ∧ hA i = (if zl_fitb w t m (s i) i (zl_at w t m s b (zl_c0 ind r) i) then 0 else 1)
def zl_ok (n w t m ind : Int) (s : Int → Int) (rows : Int) (rA cA ceA hA rB : Int → Int) : Prop :=
  (1 ≤ rows ∧ rows ≤ n + 1) ∧ rB 0 = 0 ∧ rB rows = n ∧ (∀ r, 0 ≤ r → r < rows → rB r ≤ rB (r + 1) ∧ (0 < n → rB r < rB (r + 1))) ∧
  (∀ r, 0 ≤ r → r + 1 < rows → ∃ j, zl_stop n w t m s (rB r) (zl_c0 ind r) j ∧ zl_end n m s (rB r) j (rB (r + 1))) ∧
  (∀ i, rB (rows - 1) ≤ i → i < n → zl_ok1 w t m (s i) i (zl_at w t m s (rB (rows - 1)) (zl_c0 ind (rows - 1)) i)) ∧
  (∀ r, 0 ≤ r → r < rows → zl_row w t m s ind r (rB r) (rB (r + 1)) rA cA ceA hA) ∧
  rA n = rows - 1 ∧ cA n = zl_at w t m s (rB (rows - 1)) (zl_c0 ind (rows - 1)) n
theorem zl_find {rows n : Int} {rB : Int → Int} (h0 : rB 0 = 0) (hn : rB rows = n) (hr : 1 ≤ rows) (hm : ∀ r, 0 ≤ r → r < rows → rB r ≤ rB (r + 1)) {i : Int} (hi : 0 ≤ i) (hin : i < n) : ∃ r, 0 ≤ r ∧ r < rows ∧ rB r ≤ i ∧ i < rB (r + 1) := by
  have key : ∀ k : Nat, (k : Int) ≤ rows → i < rB k → ∃ r, 0 ≤ r ∧ r < rows ∧ rB r ≤ i ∧ i < rB (r + 1) := by
    intro k
    induction k with
    | zero => intro _ h; rw [show ((0 : Nat) : Int) = 0 from rfl, h0] at h; omega
    | succ k ih =>
      intro h1 h2
      by_cases h3 : i < rB k
      · exact ih (by omega) h3
      · exact ⟨k, by omega, by omega, by omega, h2⟩
  exact key rows.toNat (by omega) (by rw [show ((rows.toNat : Nat) : Int) = rows by omega, hn]; exact hin)
theorem zl_uniq {n w t m ind : Int} {s : Int → Int} {rows rows' : Int} {rA cA ceA hA rB rA' cA' ceA' hA' rB' : Int → Int} (hn0 : 0 ≤ n) (h : zl_ok n w t m ind s rows rA cA ceA hA rB) (h' : zl_ok n w t m ind s rows' rA' cA' ceA' hA' rB') :
    rows = rows' ∧ (∀ r, 0 ≤ r → r ≤ rows → rB r = rB' r) ∧ (∀ i, 0 ≤ i → i ≤ n → rA i = rA' i ∧ cA i = cA' i) ∧ ∀ i, 0 ≤ i → i < n → ceA i = ceA' i ∧ hA i = hA' i := by
  obtain ⟨⟨a1, -⟩, a2, a3, a4, a5, a6, a7, a8, a9⟩ := h
  obtain ⟨⟨b1, -⟩, b2, b3, b4, b5, b6, b7, b8, b9⟩ := h'
  have beg : ∀ k : Nat, (k : Int) < rows → (k : Int) < rows' → rB k = rB' k := by
    intro k
    induction k with
    | zero => intro _ _; exact a2.trans b2.symm
    | succ k ih =>
      intro h1 h2
      have e := ih (by omega) (by omega)
      obtain ⟨j, c1, c2⟩ := a5 k (by omega) (by omega)
      obtain ⟨j', d1, d2⟩ := b5 k (by omega) (by omega)
      rw [← e] at d1 d2
      have hj := zl_stop_uniq c1 d1
      subst hj
      exact zl_end_uniq c2 d2
  have hrows : rows = rows' := by
    rcases Int.lt_trichotomy rows rows' with q | q | q
    · exfalso
      obtain ⟨j, d1, -⟩ := b5 (rows - 1) (by omega) (by omega)
      have e := beg (rows - 1).toNat (by omega) (by omega)
      rw [show (((rows - 1).toNat : Nat) : Int) = rows - 1 by omega] at e
      rw [← e] at d1
      exact d1.2.2.2 (a6 j d1.1 d1.2.1)
    · exact q
    · exfalso
      obtain ⟨j, d1, -⟩ := a5 (rows' - 1) (by omega) (by omega)
      have e := beg (rows' - 1).toNat (by omega) (by omega)
      rw [show (((rows' - 1).toNat : Nat) : Int) = rows' - 1 by omega] at e
      rw [e] at d1
      exact d1.2.2.2 (b6 j d1.1 d1.2.1)
  subst hrows
  have begs : ∀ r, 0 ≤ r → r ≤ rows → rB r = rB' r := by
    intro r h1 h2
    by_cases h3 : r = rows
    · subst h3; exact a3.trans b3.symm
    · have e := beg r.toNat (by omega) (by omega)
      rw [show ((r.toNat : Nat) : Int) = r by omega] at e
      exact e
  have inner : ∀ i, 0 ≤ i → i < n → rA i = rA' i ∧ cA i = cA' i ∧ ceA i = ceA' i ∧ hA i = hA' i := by
    intro i h1 h2
    obtain ⟨r, r1, r2, r3, r4⟩ := zl_find a2 a3 a1 (fun r h1 h2 => (a4 r h1 h2).1) h1 h2
    obtain ⟨c1, c2, c3, c4⟩ := a7 r r1 r2 i r3 r4
    obtain ⟨d1, d2, d3, d4⟩ := b7 r r1 r2 i (by rw [← begs r r1 (by omega)]; exact r3) (by rw [← begs (r + 1) (by omega) (by omega)]; exact r4)
    rw [← begs r r1 (by omega)] at d2 d3 d4
    exact ⟨c1.trans d1.symm, c2.trans d2.symm, c3.trans d3.symm, c4.trans d4.symm⟩
  refine ⟨rfl, begs, fun i h1 h2 => ?_, fun i h1 h2 => (inner i h1 h2).2.2⟩
  by_cases hi : i = n
  · subst hi
    rw [a8, b8, a9, b9, begs (rows - 1) (by omega) (by omega)]
    exact ⟨rfl, rfl⟩
  · exact ⟨(inner i h1 (by omega)).1, (inner i h1 (by omega)).2.1⟩
/-- the cells of the gaps that a line begins with -/
def zl_lead (n t : Int) (s : Int → Int) : Nat → Int → Int → Int
  | 0, _, c => c
  | w + 1, i, c => if i < n ∧ (s i = 32 ∨ s i = 9) then zl_lead n t s w (i + 1) (c + (if s i = 9 then t - c % t else 1)) else c
def zl_ind (n w t m e : Int) (s : Int → Int) : Int := if m = 0 then 0 else if w / 2 < zl_lead n t s 41 0 0 + e then w / 2 else zl_lead n t s 41 0 0 + e
/-- a place where the caret may be -/
def zl_isstop (n : Int) (s hA : Int → Int) (i : Int) : Prop := i = 0 ∨ i = n ∨ (s i ≠ 126 ∧ hA i = 0)
