/-! the reference splits a line -/
section ZSm
variable {d : Nat} {S : zS} {I J K R : zI} {T : Int × Nat} {M n v l f c k x y z r i p m a N : Int} {P Q s : Int → Int}
def zt_cpl (P : Int → Int) (x y : Int) : Int → Int := fun j => if j = 1 + y then P (1 + x) else if 13 + 40 * y ≤ j ∧ j < 13 + 40 * y + 40 then P (j - 40 * y + 40 * x) else P j
theorem zt_cpl_at {j : Int} : zt_cpl P x y j = if j = 1 + y then P (1 + x) else if 13 + 40 * y ≤ j ∧ j < 13 + 40 * y + 40 then P (j - 40 * y + 40 * x) else P j := rfl
def zt_spk (Q : Int → Int) (l k : Int) : Int → Int := fun j => if 494 ≤ j ∧ j < 494 + 3 * k ∧ (j - 494) % 3 = 0 ∧ l < Q j then Q j + 1 else if 494 ≤ j ∧ j < 494 + 3 * k ∧ (j - 494) % 3 = 1 ∧ l ≤ Q j then Q j + 1 else Q j
theorem zt_spk_at {j : Int} : zt_spk Q l k j = if 494 ≤ j ∧ j < 494 + 3 * k ∧ (j - 494) % 3 = 0 ∧ l < Q j then Q j + 1 else if 494 ≤ j ∧ j < 494 + 3 * k ∧ (j - 494) % 3 = 1 ∧ l ≤ Q j then Q j + 1 else Q j := rfl
theorem zt_spk_off {j : Int} (h : j < 494 ∨ 494 + 3 * k ≤ j) : zt_spk Q l k j = Q j := by
  rw [zt_spk_at, if_neg (by omega), if_neg (by omega)]
theorem zt_spk_step {A B : Int} (hk : 0 ≤ k) (hA : A = if l < Q (494 + 3 * k) then Q (494 + 3 * k) + 1 else Q (494 + 3 * k)) (hB : B = if l ≤ Q (495 + 3 * k) then Q (495 + 3 * k) + 1 else Q (495 + 3 * k)) : zt_up (zt_up (zt_spk Q l k) (494 + 3 * k) A) (495 + 3 * k) B = zt_spk Q l (k + 1) := by
  funext j
  rw [zt_up_at, zt_up_at, zt_spk_at, zt_spk_at]
  by_cases a1 : j = 495 + 3 * k
  · subst a1
    rw [if_pos rfl, if_neg (show ¬ (494 ≤ 495 + 3 * k ∧ 495 + 3 * k < 494 + 3 * (k + 1) ∧ (495 + 3 * k - 494) % 3 = 0 ∧ l < Q (495 + 3 * k)) by omega), hB]
    by_cases g : l ≤ Q (495 + 3 * k)
    · rw [if_pos g, if_pos (by omega)]
    · rw [if_neg g, if_neg (by omega)]
  · rw [if_neg a1]
    by_cases a2 : j = 494 + 3 * k
    · subst a2
      rw [if_pos rfl, hA]
      by_cases g : l < Q (494 + 3 * k)
      · rw [if_pos g, if_pos (by omega)]
      · rw [if_neg g, if_neg (by omega), if_neg (by omega)]
    · rw [if_neg a2]
      by_cases c1 : 494 ≤ j ∧ j < 494 + 3 * k ∧ (j - 494) % 3 = 0 ∧ l < Q j
      · rw [if_pos c1, if_pos (by omega)]
      · rw [if_neg c1, if_neg (show ¬ (494 ≤ j ∧ j < 494 + 3 * (k + 1) ∧ (j - 494) % 3 = 0 ∧ l < Q j) by omega)]
        by_cases c2 : 494 ≤ j ∧ j < 494 + 3 * k ∧ (j - 494) % 3 = 1 ∧ l ≤ Q j
        · rw [if_pos c2, if_pos (by omega)]
        · rw [if_neg c2, if_neg (by omega)]
def zt_spm (Q : Int → Int) (l i c : Int) : Int → Int := fun j => if 53 + 40 * l ≤ j ∧ j < 53 + 40 * l + (c - i) then Q (j - 40 + i) else Q j
theorem zt_spm_at {j : Int} : zt_spm Q l i c j = if 53 + 40 * l ≤ j ∧ j < 53 + 40 * l + (c - i) then Q (j - 40 + i) else Q j := rfl
def zt_sp2 (Q : Int → Int) (l i n : Int) : Int → Int := zt_up (zt_up (zt_spm Q l i n) (1 + l + 1) (n - i)) (1 + l) i
def zt_sps (P : Int → Int) (k m : Int) : Int → Int := fun j => if k + 3 ≤ j ∧ j ≤ 1 + m then P (j - 1) else if 93 + 40 * k ≤ j ∧ j < 53 + 40 * m then P (j - 40) else P j
theorem zt_sps_at {j : Int} : zt_sps P k m j = if k + 3 ≤ j ∧ j ≤ 1 + m then P (j - 1) else if 93 + 40 * k ≤ j ∧ j < 53 + 40 * m then P (j - 40) else P j := rfl
def zt_spl (P : Int → Int) (l i n m N : Int) : Int → Int := zt_up (zt_up (zt_spk (zt_sp2 (zt_up (zt_sps P l m) 0 (m + 1)) l i n) l N) 518 (l + 1)) 519 0
end ZSm
