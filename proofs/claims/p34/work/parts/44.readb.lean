/-! what there is: rows, cells, places, folds -/
section ZRf
variable {d : Nat} {S : zS} {I J K R : zI} {T : Int × Nat} {X M n v l f c k x y z r i p : Int}
/-- the laid line of both, once more -/
def zr_mok (I J : zI) (M l : Int) : Prop := zl_mok (I (M + 1) (1 + l)) (I M 6) (I M 7) (I M 8) (zl_ind (I (M + 1) (1 + l)) (I M 6) (I M 7) (I M 8) (I M 9) (zt_sg (I (M + 1)) l)) (zt_sg (I (M + 1)) l) J M
def zr_pic (I : zI) (M x l : Int) : Prop := zl_pic (I (M + 1) (1 + l)) (I M 6) (I M 7) (I M 8) (zl_ind (I (M + 1) (1 + l)) (I M 6) (I M 7) (I M 8) (I M 9) (zt_sg (I (M + 1)) l)) (zt_sg (I (M + 1)) l) I x
/-- numbers of a row of a line that is laid -/
theorem zr_both (hn : 0 ≤ I (M + 1) (1 + l) ∧ I (M + 1) (1 + l) ≤ 40) (hmo : zr_mo I M) (hp : zr_pic I M x l) (hk : zr_mok I K M l) (hr : 0 ≤ k ∧ k < I x 1) : (I x 1 ≤ 41 ∧ (0 ≤ I (x + 7) k ∧ I (x + 7) k ≤ I (x + 7) (k + 1) ∧ I (x + 7) (k + 1) ≤ I (M + 1) (1 + l))) ∧ (K (M + 11) k = I (x + 7) k ∧ K (M + 11) (k + 1) = I (x + 7) (k + 1)) ∧ (∀ i, 0 ≤ i → i ≤ I (M + 1) (1 + l) → K (M + 7) i = I (x + 1) i ∧ K (M + 8) i = I (x + 2) i) ∧ (∀ i, 0 ≤ i → i < I (M + 1) (1 + l) → K (M + 9) i = I (x + 3) i) ∧ (∀ i, 0 ≤ i → i < I (M + 1) (1 + l) → (0 ≤ I (x + 2) i ∧ I (x + 2) i ≤ 400) ∧ 0 ≤ I (x + 3) i ∧ I (x + 3) i ≤ 8) := by
  obtain ⟨u1, u2, u3, u4⟩ := zl_both hn.1 hp hk
  have hi := zz_ind (n := I (M + 1) (1 + l)) (l := l) hmo
  have hw := hmo.1
  have hcol := zl_cols hp.2.2.1 hn hmo.2.1 (by omega)
  have b0 := zl_beg hp.2.2.1 (r := k) (by omega)
  have b1 := zl_beg hp.2.2.1 (r := k + 1) (by omega)
  have mo := zl_mono hp.2.2.1 k (k + 1) hr.1 (by omega) (by omega)
  have hrows := hp.2.2.1.1
  exact ⟨⟨by omega, b0.1, mo, b1.2⟩, ⟨u2 k hr.1 (by omega), u2 (k + 1) (by omega) (by omega)⟩, u3, fun i i1 i2 => (u4 i i1 i2).1, fun i i1 i2 => ⟨(hcol.1 i i1 i2).1, (hcol.1 i i1 i2).2.1⟩⟩
end ZRf
