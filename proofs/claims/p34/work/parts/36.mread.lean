/-! the reference: what is asked of a page that is laid -/
/-- how many rows each line has -/
def zl_rows (P : Int → Int) (w t m e : Int) (rz : Int → Int) : Prop := ∀ l, 0 ≤ l → l < P 0 → ∃ rA cA ceA hA rB : Int → Int, zl_ok (P (1 + l)) w t m (zl_ind (P (1 + l)) w t m e (zt_sg P l)) (zt_sg P l) (rz l) rA cA ceA hA rB
noncomputable def zt_vis (P rz : Int → Int) (k : Int) : Int := zt_if (zt_hid P k) 0 (rz k)
theorem zt_vis_t {P rz : Int → Int} {k : Int} (h : zt_hid P k) : zt_vis P rz k = 0 := zt_if_t h
theorem zt_vis_f {P rz : Int → Int} {k : Int} (h : ¬ zt_hid P k) : zt_vis P rz k = rz k := zt_if_f h
theorem zl_rows_ir {P rz : Int → Int} {w t m e l : Int} (h : zl_rows P w t m e rz) (hl : 0 ≤ l ∧ l < P 0) (hn : P (1 + l) ≤ 40) : 1 ≤ rz l ∧ rz l ≤ 41 := by
  obtain ⟨_, _, _, _, _, q, -⟩ := h l hl.1 hl.2
  omega
theorem zt_vis_ir {P rz : Int → Int} {w t m e l : Int} (h : zl_rows P w t m e rz) (hl : 0 ≤ l ∧ l < P 0) (hn : P (1 + l) ≤ 40) : 0 ≤ zt_vis P rz l ∧ zt_vis P rz l ≤ 41 := by
  have := zl_rows_ir h hl hn
  by_cases g : zt_hid P l
  · rw [zt_vis_t g]; omega
  · rw [zt_vis_f g]; omega
theorem zt_sm_ir {P rz : Int → Int} {w t m e l : Int} (h : zl_rows P w t m e rz) (hP : ∀ k, 0 ≤ k → k < P 0 → 0 ≤ P (1 + k) ∧ P (1 + k) ≤ 40) (hl : 0 ≤ l ∧ l ≤ P 0) : 0 ≤ zk_sm (zt_vis P rz) l ∧ zk_sm (zt_vis P rz) l ≤ l * 41 := zk_sm_ir hl.1 (fun k k1 k2 => zt_vis_ir h (by omega) (hP k k1 (by omega)).2)
section ZMr
variable {d : Nat} {S : zS} {I J R : zI} {T : Int × Nat} {a b n v l f c m k x y z r i p col w t e : Int} {rz : Int → Int}
theorem zl_rows_J (ho : zo_ly I J a) (hk : zl_rows (I (a + 1)) (I a 6) (I a 7) (I a 8) (I a 9) rz) : zl_rows (J (a + 1)) (J a 6) (J a 7) (J a 8) (J a 9) rz := by
  rw [ho.1 (a + 1) (by omega) (by omega), ho.2 6 (by omega) (by omega), ho.2 7 (by omega) (by omega), ho.2 8 (by omega) (by omega), ho.2 9 (by omega) (by omega)]
  exact hk
/-! of a line that is laid -/
end ZMr
