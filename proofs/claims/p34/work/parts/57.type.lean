/-! a sign is typed -/
section ZTy
variable {d : Nat} {S : zS} {I J J1 J2 K K0 K1 R R' : zI} {T : Int × Nat} {X M n v l f c k x y z r i p w t m e b g len : Int} {P Q s : Int → Int}
/-- what an edit leaves alone: the rows of the reference -/
theorem zc_done_q (hd : zc_done J2 J X f P w t m e) (fa : zs_fa X f) (q1 : X + 300 ≤ z) : J z = J2 z := by
  obtain ⟨v', c, -, d2, -⟩ := hd
  have lo := zs_fa_lo fa
  exact d2 z (by omega) (by omega) (by omega)
theorem zc_done_rep (hd : zc_done J2 J X f P w t m e) : ∃ v, zv_rep J f (zt_up P 519 v) ∧ zw_page (zt_up P 519 v) := by
  obtain ⟨v', c, -, -, -, -, d5, -⟩ := hd
  exact ⟨v', d5⟩
end ZTy
