/-! the caret goes: edge, step, down -/
section ZMx
variable {d : Nat} {S : zS} {I J K R : zI} {T : Int × Nat} {X M n v l f c k x y z r i p w t m e : Int} {P Q rz : Int → Int}
theorem zx_mv (hc : zs_cl S R X) (hf : R X 6 = f) (hl : 0 ≤ l ∧ l < 12) (hp : 0 ≤ p ∧ p ≤ 40) : zG (d + 4) 128 [.inr (.inr X), .inl l, .inl p] (S, I, R, T) = some (0, (S, zp_mv I X f l p (I (X + 135 + 11 + 9 * l + 2) p), R, T)) := zx_moveCaret hc hf hl hp
theorem zt_mv_id (h : P 518 = l) : zt_up P 519 p = zt_up (zt_up P 518 l) 519 p := by
  funext j
  by_cases g : j = 519
  · rw [zt_up_eq g, zt_up_eq g]
  · rw [zt_up_ne g, zt_up_ne g]
    by_cases g2 : j = 518
    · rw [zt_up_eq g2, g2, h]
    · rw [zt_up_ne g2]
end ZMx
