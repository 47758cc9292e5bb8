/-! the class: what is read of lines, folds, settings, signs -/
def zk_any (p : Nat → Bool) : Nat → Bool
  | 0 => false
  | k + 1 => zk_any p k || p k
theorem zk_any_iff {p : Nat → Bool} : ∀ {n : Nat}, zk_any p n = true ↔ ∃ k, k < n ∧ p k = true
  | 0 => by simp [zk_any]
  | n + 1 => by
    simp only [zk_any, Bool.or_eq_true, zk_any_iff (n := n)]
    constructor
    · rintro (⟨k, h1, h2⟩ | h)
      · exact ⟨k, by omega, h2⟩
      · exact ⟨n, by omega, h⟩
    · rintro ⟨k, h1, h2⟩
      by_cases hk : k = n
      · subst hk; exact Or.inr h2
      · exact Or.inl ⟨k, by omega, h2⟩
theorem zk_any_congr {p q : Nat → Bool} : ∀ {n : Nat}, (∀ k, k < n → p k = q k) → zk_any p n = zk_any q n
  | 0, _ => rfl
  | n + 1, h => by
    show (zk_any p n || p n) = (zk_any q n || q n)
    rw [zk_any_congr (fun k hk => h k (by omega)), h n (by omega)]
theorem zk_any_step {p : Nat → Bool} {n k : Nat} (hk : k < n) (h0 : zk_any p k = false) (h1 : p k = true) : zk_any p n = true := zk_any_iff.mpr ⟨k, hk, h1⟩
theorem zk_sum_congr {f g : Int → Int} : ∀ {n : Nat}, (∀ k : Nat, k < n → f k = g k) → zk_sum f n = zk_sum g n
  | 0, _ => rfl
  | n + 1, h => by
    show zk_sum f n + f n = zk_sum g n + g n
    rw [zk_sum_congr (fun k hk => h k (by omega)), h n (by omega)]
def zb (b : Bool) : Int := if b then 1 else 0
theorem zb01 (b : Bool) : zb b = 0 ∨ zb b = 1 := by cases b <;> simp [zb]
theorem zb0 {b : Bool} : zb b = 0 ↔ b = false := by cases b <;> simp [zb]
def zf_hid (l fs la sh : Int) : Bool := decide (sh = 1) && (decide (fs < l) && decide (l ≤ la))
def zf_odds (a b c d : Int) : Bool := (decide (a = c) && decide (b = d)) || (!(decide (b < c) || decide (d < a)) && !((decide (a ≤ c) && decide (d ≤ b)) || (decide (c ≤ a) && decide (b ≤ d))))
def zf_ahead (a b c d : Int) : Bool := decide (a < c) || (decide (a = c) && decide (d < b))
section ZRd
variable {d : Nat} {S : zS} {I R : zI} {T : Int × Nat} {a b i n v l f c : Int}
theorem zx_isWide : zG (d + 1) 148 [.inl c] (S, I, R, T) = some (zb (decide (65 ≤ c ∧ c ≤ 90)), (S, I, R, T)) := by
  rw [zm_148]
  by_cases h1 : c < 65 <;> by_cases h2 : 90 < c <;> simp [h1, h2, zb] <;> omega
theorem zx_isGap : zG (d + 1) 149 [.inl c] (S, I, R, T) = some (zb (decide (c = 32 ∨ c = 9)), (S, I, R, T)) := by
  rw [zm_149]
  by_cases h1 : c = 32 <;> by_cases h2 : c = 9 <;> simp [h1, h2, zb]
def zf_sign (c : Int) : Bool := decide ((97 ≤ c ∧ c ≤ 122) ∨ (65 ≤ c ∧ c ≤ 90) ∨ c = 32 ∨ c = 9 ∨ c = 45 ∨ c = 126)
theorem zx_isSign : zG (d + 2) 150 [.inl c] (S, I, R, T) = some (zb (zf_sign c), (S, I, R, T)) := by
  rw [zm_150]
  have hk : ∀ n, zi_run zt_150 (zG (d + 1)) (n + 1) 12 [some (.inl c)] [] (S, I, R, T) = some (zb (decide ((65 ≤ c ∧ c ≤ 90) ∨ c = 32 ∨ c = 9 ∨ c = 45 ∨ c = 126)), (S, I, R, T)) := by
    intro n
    rw [zk_150_12]
    simp only [zx_isWide, zx_isGap, Option.bind_some]
    by_cases h1 : 65 ≤ c ∧ c ≤ 90 <;> by_cases h2 : c = 32 ∨ c = 9 <;> by_cases h3 : c = 45 <;> by_cases h4 : c = 126 <;> simp [h1, h2, h3, h4, zb] <;> omega
  simp only [hk 19998]
  unfold zf_sign
  by_cases h1 : c < 97 <;> by_cases h2 : 122 < c <;> simp [h1, h2, zb] <;> congr 1 <;> simp <;> omega
theorem zx_lets : zG (d + 2) 151 [.inl c] (S, I, R, T) = some (zb (decide ((c = 32 ∨ c = 9) ∨ (65 ≤ c ∧ c ≤ 90) ∨ c = 45)), (S, I, R, T)) := by
  rw [zm_151]
  simp only [zx_isWide, zx_isGap, Option.bind_some]
  by_cases h1 : 65 ≤ c ∧ c ≤ 90 <;> by_cases h2 : c = 32 ∨ c = 9 <;> by_cases h3 : c = 45 <;> simp [h1, h2, h3, zb] <;> omega
/-! lines -/
theorem zx_Lhas (h : zs_li S R a) : zG (d + 1) 57 [.inr (.inr a), .inl l] (S, I, R, T) = some (zb (decide (0 ≤ l ∧ l < I a 0)), (S, I, R, T)) := by
  obtain ⟨h0, h1, h2, h3, h4, h5⟩ := h
  rw [zm_57]
  by_cases g1 : l < 0 <;> by_cases g2 : l < I a 0 <;> simp [h1, g1, g2, zb] <;> omega
theorem zx_length (h : zs_li S R a) : zG (d + 2) 59 [.inr (.inr a), .inl l] (S, I, R, T) = some (zk_pk I (a + 1) 12 l, (S, I, R, T)) := by
  obtain ⟨h0, h1, h2, h3, h4, h5⟩ := h
  rw [zm_59]
  simp [h1, h2, zx_pick (I := I) (R := R) (T := T) (show 0 < a + 1 by omega) h4]
theorem zx_hasPlace (h : zs_li S R a) : zG (d + 3) 58 [.inr (.inr a), .inl l, .inl i] (S, I, R, T) = some (zb (decide ((0 ≤ l ∧ l < I a 0) ∧ 0 ≤ i ∧ i ≤ zk_pk I (a + 1) 12 l)), (S, I, R, T)) := by
  rw [zm_58]
  obtain ⟨h0, h1, h2, h3, h4, h5⟩ := id h
  by_cases g0 : 0 ≤ l ∧ l < I a 0 <;> by_cases g1 : i < 0 <;> by_cases g2 : zk_pk I (a + 1) 12 l < i <;> simp [h1, zx_Lhas h, zx_length h, g0, g1, g2, zb] <;> omega
theorem zx_signOf (h : zs_li S R a) (hl : -1 ≤ l ∧ l ≤ 1000) (hi : -1 ≤ i ∧ i ≤ 1000) : zG (d + 2) 61 [.inr (.inr a), .inl l, .inl i] (S, I, R, T) = some (zk_pk I (a + 2) 480 (l * 40 + i), (S, I, R, T)) := by
  obtain ⟨h0, h1, h2, h3, h4, h5⟩ := h
  rw [zm_61]
  simp [h1, h3, zx_pick (I := I) (R := R) (T := T) (show 0 < a + 2 by omega) h5]
  rw [zw_id (by omega) (by omega), zw_id (by omega) (by omega)]
theorem zx_writeSign (h : zs_li S R a) (hl : -1 ≤ l ∧ l ≤ 1000) (hi : -1 ≤ i ∧ i ≤ 1000) : zG (d + 2) 72 [.inr (.inr a), .inl l, .inl i, .inl v] (S, I, R, T) = some (0, (S, zk_pt I (a + 2) 480 (l * 40 + i) v, R, T)) := by
  obtain ⟨h0, h1, h2, h3, h4, h5⟩ := h
  rw [zm_72]
  simp [h1, h3, zx_put (I := I) (R := R) (T := T) (show 0 < a + 2 by omega) h5]
  rw [zw_id (by omega) (by omega), zw_id (by omega) (by omega)]
theorem zx_total (h : zs_li S R a) (hc : 0 ≤ I a 0 ∧ I a 0 ≤ 12) (hg : ∀ j : Nat, j < I a 0 → 0 ≤ I (a + 1) j ∧ I (a + 1) j ≤ 40) : zG (d + 3) 60 [.inr (.inr a)] (S, I, R, T) = some (zk_sum (I (a + 1)) (I a 0).toNat, (S, I, R, T)) := by
  obtain ⟨h0, h1, h2, h3, h4, h5⟩ := h
  rw [zm_60]
  simp [h1, h2, zx_sum (I := I) (R := R) (T := T) (d := d) (show 0 < a + 1 by omega) h4 (show (0 : Int) ≤ 40 by omega) (by omega) ⟨by omega, by omega⟩ hc.1 hc.2 hg]
/-! folds -/
theorem zx_Fhas (h : zs_fo S R a) : zG (d + 1) 1 [.inr (.inr a), .inl l] (S, I, R, T) = some (zb (decide (0 ≤ l ∧ l < I a 0)), (S, I, R, T)) := by
  obtain ⟨h0, h1, h2, h3, h4, h5⟩ := h
  rw [zm_1]
  by_cases g1 : l < 0 <;> by_cases g2 : l < I a 0 <;> simp [h1, g1, g2, zb] <;> omega
theorem zx_firstOf (h : zs_fo S R a) : zG (d + 2) 2 [.inr (.inr a), .inl l] (S, I, R, T) = some (zk_pk I (a + 1) 8 l, (S, I, R, T)) := by
  obtain ⟨h0, h1, h2, h3, h4, h5, h6, h7⟩ := h
  rw [zm_2]
  simp [h1, h2, zx_pick (I := I) (R := R) (T := T) (show 0 < a + 1 by omega) h5]
theorem zx_lastOf (h : zs_fo S R a) : zG (d + 2) 3 [.inr (.inr a), .inl l] (S, I, R, T) = some (zk_pk I (a + 2) 8 l, (S, I, R, T)) := by
  obtain ⟨h0, h1, h2, h3, h4, h5, h6, h7⟩ := h
  rw [zm_3]
  simp [h1, h3, zx_pick (I := I) (R := R) (T := T) (show 0 < a + 2 by omega) h6]
theorem zx_isShut (h : zs_fo S R a) : zG (d + 2) 4 [.inr (.inr a), .inl l] (S, I, R, T) = some (zb (decide (zk_pk I (a + 3) 8 l = 1)), (S, I, R, T)) := by
  obtain ⟨h0, h1, h2, h3, h4, h5, h6, h7⟩ := h
  rw [zm_4]
  simp [h1, h4, zx_pick (I := I) (R := R) (T := T) (show 0 < a + 3 by omega) h7]
  by_cases g : zk_pk I (a + 3) 8 l = 1 <;> simp [g, zb]
theorem zx_setShut (h : zs_fo S R a) : zG (d + 2) 5 [.inr (.inr a), .inl l, .inl v] (S, I, R, T) = some (0, (S, zk_pt I (a + 3) 8 l v, R, T)) := by
  obtain ⟨h0, h1, h2, h3, h4, h5, h6, h7⟩ := h
  rw [zm_5]
  simp [h1, h4, zx_put (I := I) (R := R) (T := T) (show 0 < a + 3 by omega) h7]
theorem zx_odds {c' : Int} : zG (d + 1) 17 [.inl a, .inl b, .inl c, .inl c'] (S, I, R, T) = some (zb (zf_odds a b c c'), (S, I, R, T)) := by
  rw [zm_17]
  have h54 : ∀ n x y, zi_run zt_17 (zG d) (n + 1) 54 [none, none, none, none, some (.inl x), none] [.inl y] (S, I, R, T) = some ((if x = 0 ∧ y = 0 then 1 else 0), (S, I, R, T)) := by
    intro n x y
    rw [zk_17_54]
    by_cases h1 : x = 0 <;> by_cases h2 : y = 0 <;> simp [h1, h2]
  have h27 : ∀ n x, zi_run zt_17 (zG d) (n + 2) 27 [some (.inl a), some (.inl b), some (.inl c), some (.inl c'), none, none] [.inl x] (S, I, R, T) = some ((if x = 0 ∧ ¬ ((a ≤ c ∧ c' ≤ b) ∨ (c ≤ a ∧ b ≤ c')) then 1 else 0), (S, I, R, T)) := by
    intro n x
    rw [zk_17_27]
    simp only [h54]
    by_cases h1 : c < a <;> by_cases h2 : b < c' <;> by_cases h3 : a < c <;> by_cases h4 : c' < b <;> simp [h1, h2, h3, h4] <;> (first | omega | (split <;> split <;> omega) | (congr 1; simp; omega) | skip)
  have h12 : ∀ n, zi_run zt_17 (zG d) (n + 3) 12 [some (.inl a), some (.inl b), some (.inl c), some (.inl c'), none, none] [] (S, I, R, T) = some ((if ¬ (b < c ∨ c' < a) ∧ ¬ ((a ≤ c ∧ c' ≤ b) ∨ (c ≤ a ∧ b ≤ c')) then 1 else 0), (S, I, R, T)) := by
    intro n
    rw [zk_17_12]
    simp only [h27]
    by_cases h1 : b < c <;> by_cases h2 : c' < a <;> simp [h1, h2]
  simp only [h12]
  unfold zf_odds zb
  by_cases h1 : a = c <;> by_cases h2 : b = c' <;> simp [h1, h2]
  all_goals (congr 1; simp)
theorem zx_ahead {c' : Int} : zG (d + 1) 18 [.inl a, .inl b, .inl c, .inl c'] (S, I, R, T) = some (zb (zf_ahead a b c c'), (S, I, R, T)) := by
  rw [zm_18]
  unfold zf_ahead zb
  by_cases h1 : a < c <;> by_cases h2 : a = c <;> by_cases h3 : c' < b <;> simp [h1, h2, h3] <;> omega
end ZRd
