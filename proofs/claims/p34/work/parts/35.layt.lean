/-! the reference: a line is laid -/
theorem zu_row {I : zI} {a k v : Int} : zi_up I a k v a = zt_up (I a) k v := by
  funext j
  rw [zi_up_at, zt_up_at]
  by_cases g : j = k
  · rw [if_pos ⟨rfl, g⟩, if_pos g]
  · rw [if_neg (by omega), if_neg g]
/-- a line as the reference has laid it -/
def zl_mok (n w t m ind : Int) (s : Int → Int) (J : zI) (a : Int) : Prop := zl_ok n w t m ind s (J a 22) (J (a + 7)) (J (a + 8)) (J (a + 9)) (J (a + 10)) (J (a + 11)) ∧ J a 23 = ind ∧ J (a + 9) n = 0 ∧ J (a + 10) n = 0
theorem zl_ind_ir {n w t m e : Int} {s : Int → Int} (hw : 4 ≤ w ∧ w ≤ 40) (he : 0 ≤ e) (hl : 0 ≤ zl_lead n t s 41 0 0) : 0 ≤ zl_ind n w t m e s ∧ zl_ind n w t m e s ≤ w / 2 := by
  unfold zl_ind
  split
  · omega
  · split <;> omega
theorem zl_lead_nn {n t : Int} {s : Int → Int} (ht : 1 ≤ t) : ∀ (u : Nat) (k c : Int), 0 ≤ c → 0 ≤ zl_lead n t s u k c
  | 0, k, c, h => h
  | u + 1, k, c, h => by
    show 0 ≤ if k < n ∧ (s k = 32 ∨ s k = 9) then zl_lead n t s u (k + 1) (c + (if s k = 9 then t - c % t else 1)) else c
    have m2 := Int.emod_lt_of_pos c (show 0 < t by omega)
    split
    · refine zl_lead_nn ht u (k + 1) _ ?_
      split <;> omega
    · exact h
section ZMm
variable {d : Nat} {S : zS} {I J R : zI} {T : Int × Nat} {a b n v l f c m k x y z r i p col : Int}
end ZMm
