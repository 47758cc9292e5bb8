/-! signs of a sheet are pasted -/
section ZPa
variable {d : Nat} {S : zS} {I J J0 J1 J2 K K0 K1 R R' : zI} {T : Int × Nat} {X M n v l f c k x y z r i p w t m e b g len N o u a : Int} {P Q s ce : Int → Int}
theorem zt_insn_0 (hn : P (1 + l) = len) (hi : P 519 = i) : zt_insn P l i 0 len s = P := by
  funext j
  rw [zt_insn_at]
  by_cases a1 : j = 1 + l
  · rw [if_pos a1, a1, hn]; omega
  · rw [if_neg a1]
    by_cases a2 : j = 519
    · rw [if_pos a2, a2, hi]; omega
    · rw [if_neg a2, if_neg (by omega)]
      split
      · congr 1; omega
      · rfl
end ZPa
