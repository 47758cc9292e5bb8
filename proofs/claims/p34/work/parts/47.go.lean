/-! the caret goes: go, edge -/
section ZMw
variable {d : Nat} {S : zS} {I J K R : zI} {T : Int × Nat} {X M n v l f c k x y z r i p w t m e : Int} {P Q rz : Int → Int}
theorem zt_sg_congr (h1 : Q (1 + l) = P (1 + l)) (h : ∀ i, 0 ≤ i → i < P (1 + l) → Q (13 + 40 * l + i) = P (13 + 40 * l + i)) : zt_sg Q l = zt_sg P l := by
  funext i
  unfold zt_sg
  rw [h1]
  by_cases g : 0 ≤ i ∧ i < P (1 + l)
  · rw [if_pos g, if_pos g]; exact h i g.1 g.2
  · rw [if_neg g, if_neg g]
theorem zl_rows_congr (h : zl_rows P w t m e rz) (hw : zw_page P) (he : ∀ j, j < 493 → Q j = P j) : zl_rows Q w t m e rz := by
  have h0 := hw.1
  intro l l1 l2
  rw [he 0 (by omega)] at l2
  have hn := hw.2.1 l l1 l2
  rw [zt_sg_congr (P := P) (he _ (by omega)) (fun i i1 i2 => he _ (by omega)), he (1 + l) (by omega)]
  exact h l l1 l2
theorem zt_mv (j : Int) (hj : j < 518) : zt_up (zt_up P 518 l) 519 p j = P j := by rw [zt_up_ne (by omega), zt_up_ne (by omega)]
theorem zt_mv8 : zt_up (zt_up P 518 l) 519 p 518 = l := by rw [zt_up_ne (by omega), zt_up_eq rfl]
theorem zt_mv9 : zt_up (zt_up P 518 l) 519 p 519 = p := zt_up_eq rfl
/-- what the object is behind moveCaret -/
def zp_mv (I : zI) (X f l p c : Int) : zI := zi_up (zi_up (zi_up I f 2 l) f 3 p) X 8 c
theorem zp_mv_off {q : Int} (h1 : q ≠ X) (h2 : q ≠ f) : zp_mv I X f l p c q = I q := by
  unfold zp_mv
  rw [zu_off h1, zu_off h2, zu_off h2]
theorem zp_mv_X {j : Int} (h : X ≠ f) (hj : j ≠ 8) : zp_mv I X f l p c X j = I X j := by
  unfold zp_mv
  rw [zu_ne (by omega), zu_ne (by omega), zu_ne (by omega)]
theorem zp_mv_8 : zp_mv I X f l p c X 8 = c := zu_eq ⟨rfl, rfl⟩
theorem zp_mv_f (h : f ≠ X) : zp_mv I X f l p c f = zi_up (zi_up I f 2 l) f 3 p f := zu_off h
end ZMw
