/-! THE SHEETS: both make one anew, and write into one -/
section ZSh
variable {d : Nat} {S : zS} {I J K R : zI} {T : Int × Nat} {X M n v l f c k x y z r i p : Int}
theorem zf_char (x : Int) : zi_i2c x = zi_and x 65535 := by
  unfold zi_i2c zi_and
  congr 1
  generalize Int32.ofInt x = a
  apply Int32.toBitVec_inj.1
  apply BitVec.eq_of_toNat_eq
  have h1 : ((a.toUInt32 % 65536).toInt32.toBitVec).toNat = a.toBitVec.toNat % 65536 := rfl
  have h2 : ((a &&& Int32.ofInt 65535).toBitVec).toNat = a.toBitVec.toNat &&& 65535 := rfl
  rw [h1, h2]
  exact (Nat.and_two_pow_sub_one_eq_mod _ 16).symm
theorem zc_sh1_I {A : zI} (h : zc_sh1 I X A k) (e : ∀ q, X + 292 + 2 * k ≤ q → q < X + 294 + 2 * k → J q = I q) : zc_sh1 J X A k := by
  unfold zc_sh1 at *
  rw [e (X + 292 + 2 * k) (by omega) (by omega), e (X + 292 + 2 * k + 1) (by omega) (by omega)]
  exact h
end ZSh
