/-! the reference reads a text, to its end -/
section ZMu
variable {d : Nat} {S : zS} {I J K R : zI} {T : Int × Nat} {M n v l f c k x y z r i p m a N b o w t e ind rows : Int} {P Q D s B tp rA cA ceA hA rB : Int → Int}
theorem zl_zero (h : zl_ok n w t m ind s rows rA cA ceA hA rB) (hn : 0 ≤ n) : cA 0 = 0 := by
  obtain ⟨a1, a2, a3, a4, a5, a6, a7, a8, a9⟩ := h
  by_cases g : n = 0
  · subst g
    have : rows = 1 := by omega
    subst this
    rw [a9, show (1 : Int) - 1 = 0 by omega, a2, zl_at_self]
    unfold zl_c0
    rw [if_pos rfl]
  · obtain ⟨b1, b2⟩ := a4 0 (by omega) (by omega)
    have b3 := b2 (by omega)
    obtain ⟨z1, z2, -⟩ := a7 0 (by omega) (by omega) 0 (by omega) (by omega)
    rw [z2, a2, zl_at_self]
    unfold zl_c0
    rw [if_pos rfl]
theorem zl_settle0 (h : zl_settle P w t m e v c) (hn : 0 ≤ P (1 + P 518)) (hp : P 519 = 0) : v = 0 ∧ c = 0 := by
  obtain ⟨rows, rA, cA, ceA, hA, rB, h1, ⟨n1, n2, n3, n4⟩, h3⟩ := h
  rw [hp] at n1 n4
  have v0 : v = 0 := by
    by_cases g : v = 0
    · exact g
    · exact absurd (Or.inl rfl) (n4 0 (by omega) (by omega))
  rw [v0] at h3
  exact ⟨v0, h3.trans (zl_zero h1 hn)⟩
theorem zt_byte_nn {q : zT4} : 0 ≤ (zt_byte c q).1 := by
  unfold zt_byte
  by_cases hs : zf_sign c
  · rw [zt_if_t hs]
    split
    · show (0 : Int) ≤ 2; omega
    · exact Int.le_refl _
  · rw [zt_if_f hs]
    split
    · split
      · show (0 : Int) ≤ 3; omega
      · exact Int.le_refl _
    · split
      · split
        · show (0 : Int) ≤ 4; omega
        · exact Int.le_refl _
      · split
        · split
          · show (0 : Int) ≤ 5; omega
          · by_cases g : q.2.1 (q.2.2.1 - 1) < q.1 0 - 1 ∧ ¬ zt_ag q.1 (q.2.1 (q.2.2.1 - 1)) (q.1 0 - 1)
            · rw [zt_if_t g]; exact Int.le_refl _
            · rw [zt_if_f g]; show (0 : Int) ≤ 5; omega
        · show (0 : Int) ≤ 1; omega
theorem zt_res_uniq {v v' p p' : Int} (h : zt_res tp n v p) (h' : zt_res tp n v' p') : v = v' ∧ p = p' := by
  rcases h with ⟨i, i1, i2, i3, i4, i5⟩ | ⟨h1, h2, h3⟩ <;> rcases h' with ⟨j, j1, j2, j3, j4, j5⟩ | ⟨g1, g2, g3⟩
  · have e : i = j := by
      rcases Nat.lt_trichotomy i j with q | q | q
      · exact absurd (j2 i q) i3
      · exact q
      · exact absurd (i2 j q) j3
    subst e
    exact ⟨i4.trans j4.symm, i5.trans j5.symm⟩
  · exact absurd (g1 i i1) i3
  · exact absurd (h1 j j1) j3
  · exact ⟨h3.trans g3.symm, h2.trans g2.symm⟩
theorem zt_res_nn {v p : Int} (h : zt_res tp n v p) (hn : 0 ≤ n) : 0 ≤ v ∧ 0 ≤ p ∧ p ≤ n := by
  rcases h with ⟨i, i1, i2, i3, i4, i5⟩ | ⟨h1, h2, h3⟩
  · have : 0 ≤ zt_flt tp i := zt_byte_nn
    omega
  · refine ⟨?_, by omega, by omega⟩
    rw [h3]
    split <;> omega
/-- what the reading of a text may change -/
def zo_tn (I J : zI) (M : Int) : Prop := (∀ x, x ≠ M → x ≠ M + 2 → x ≠ M + 6 → J x = I x) ∧ ∀ j, j ≠ 13 → j ≠ 15 → j ≠ 16 → J M j = I M j
end ZMu
