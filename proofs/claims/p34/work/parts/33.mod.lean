/-! the reference: what is read of its page -/
theorem zl_any {n : Int} {p : Int → Prop} {run : Nat → Int → Int → zR} {σ : zM} (h1 : ∀ w k, 0 ≤ k → k < n → run (w + 1) 1 k = run w 1 (k + 1)) (h2 : ∀ w k, 0 ≤ k → k < n → p k → run (w + 1) 0 k = run w 1 (k + 1)) (h3 : ∀ w k, 0 ≤ k → k < n → ¬ p k → run (w + 1) 0 k = run w 0 (k + 1)) (h4 : ∀ w k b, 0 ≤ k → n ≤ k → (b = 0 ∨ b = 1) → run (w + 1) b k = some (b, σ)) {w : Nat} (hw : n.toNat < w) : run w 0 0 = some (zq (∃ k, (0 ≤ k ∧ k < n) ∧ p k), σ) := by
  have yes : ∀ (w : Nat) (k : Int), 0 ≤ k → (n - k).toNat < w → run w 1 k = some (1, σ) := by
    intro w
    induction w with
    | zero => intro k _ h; omega
    | succ w ih =>
      intro k hk hm
      by_cases hn : k < n
      · rw [h1 w k hk hn]; exact ih (k + 1) (by omega) (by omega)
      · exact h4 w k 1 hk (by omega) (Or.inr rfl)
  have key : ∀ (w : Nat) (k : Int), 0 ≤ k → (∀ j, 0 ≤ j → j < k → ¬ p j) → (n - k).toNat < w → run w 0 k = some (zq (∃ k, (0 ≤ k ∧ k < n) ∧ p k), σ) := by
    intro w
    induction w with
    | zero => intro k _ _ h; omega
    | succ w ih =>
      intro k hk hp hm
      by_cases hn : k < n
      · by_cases hpk : p k
        · rw [h2 w k hk hn hpk, yes w (k + 1) (by omega) (by omega), zq_t ⟨k, ⟨hk, hn⟩, hpk⟩]
        · rw [h3 w k hk hn hpk]
          refine ih (k + 1) (by omega) (fun j hj hjk => ?_) (by omega)
          by_cases hjj : j = k
          · subst hjj; exact hpk
          · exact hp j hj (by omega)
      · rw [h4 w k 0 hk (by omega) (Or.inl rfl), zq_f]
        rintro ⟨j, ⟨a, b⟩, c⟩
        exact hp j a (by omega) c
  exact key w 0 (by omega) (fun j a b => absurd b (by omega)) (by omega)
section ZMo
variable {d : Nat} {S : zS} {I J R : zI} {T : Int × Nat} {a b n v l f c m k x y z r i p : Int}
def zt_hid (P : Int → Int) (l : Int) : Prop := ∃ k, (0 ≤ k ∧ k < P 493) ∧ P (496 + 3 * k) = 1 ∧ P (494 + 3 * k) < l ∧ l ≤ P (495 + 3 * k)
def zt_beh (P : Int → Int) (l : Int) : Prop := ∃ k, (0 ≤ k ∧ k < P 493) ∧ P (496 + 3 * k) = 1 ∧ P (494 + 3 * k) = l
theorem zf_odds_iff {c d x y : Int} (hc : c < d) (hx : x < y) : zf_odds c d x y ↔ (x = c ∧ y = d) ∨ (x ≤ d ∧ c ≤ y ∧ ¬ (x ≤ c ∧ d ≤ y) ∧ ¬ (c ≤ x ∧ y ≤ d)) := by
  unfold zf_odds
  omega
/-- a row of the memory, put anew -/
def zt_row (I : zI) (p : Int) (Q : Int → Int) : zI := fun q j => if q = p then Q j else I q j
theorem zt_row_at {Q : Int → Int} {q j : Int} : zt_row I p Q q j = if q = p then Q j else I q j := rfl
theorem zt_row_eq {Q : Int → Int} : zt_row I p Q p = Q := by
  funext j
  rw [zt_row_at, if_pos rfl]
theorem zt_row_off {Q : Int → Int} {q : Int} (h : ¬ q = p) : zt_row I p Q q = I q := by
  funext j
  rw [zt_row_at, if_neg h]
theorem zt_row_up {Q : Int → Int} : zi_up (zt_row I p Q) p k v = zt_row I p (zt_up Q k v) := by
  funext q j
  rw [zi_up_at, zt_row_at, zt_row_at, zt_up_at]
  by_cases g : q = p
  · by_cases g2 : j = k
    · rw [if_pos ⟨g, g2⟩, if_pos g, if_pos g2]
    · rw [if_neg (by omega), if_pos g, if_pos g, if_neg g2]
  · rw [if_neg (by omega), if_neg g, if_neg g]
theorem zt_row_up0 : zi_up I p k v = zt_row I p (zt_up (I p) k v) := by
  funext q j
  rw [zi_up_at, zt_row_at, zt_up_at]
  by_cases g : q = p
  · by_cases g2 : j = k
    · rw [if_pos ⟨g, g2⟩, if_pos g, if_pos g2]
    · rw [if_neg (by omega), if_pos g, if_neg g2, g]
  · rw [if_neg (by omega), if_neg g]
theorem zt_row_self : zt_row I p (I p) = I := by
  funext q j
  rw [zt_row_at]
  split
  · rename_i h; rw [h]
  · rfl
theorem zt_row_row {Q Q' : Int → Int} : zt_row (zt_row I p Q) p Q' = zt_row I p Q' := by
  funext q j
  rw [zt_row_at, zt_row_at, zt_row_at]
  split <;> rfl
/-- folds from k on have moved on by one -/
def zt_sh (P : Int → Int) (n k : Int) : Int → Int := fun j => if 497 + 3 * k ≤ j ∧ j < 497 + 3 * n then P (j - 3) else P j
theorem zt_sh_at {P : Int → Int} {n k j : Int} : zt_sh P n k j = if 497 + 3 * k ≤ j ∧ j < 497 + 3 * n then P (j - 3) else P j := rfl
end ZMo
