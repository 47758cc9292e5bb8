/-! whole numbers and the machine's -/
def zi_v : zV → Value
  | .inl x => .int (Int32.ofInt x)
  | .inr (.inl x) => .long (Int64.ofInt x)
  | .inr (.inr x) => va_rf (zi_ro x)
def zi_ir (x : Int) : Prop := -2147483648 ≤ x ∧ x < 2147483648
def zi_in : zV → Prop
  | .inl x => zi_ir x
  | .inr (.inl x) => -9223372036854775808 ≤ x ∧ x < 9223372036854775808
  | .inr (.inr x) => 0 ≤ x
theorem zi_w_ir (x : Int) : zi_ir (zi_w x) := by unfold zi_ir zi_w; omega
theorem zi_w_id {x : Int} (h : zi_ir x) : zi_w x = x := by unfold zi_ir at h; unfold zi_w; omega
theorem zi_bm (x : Int) : x.bmod (2 ^ 32) = zi_w x := by
  unfold zi_w Int.bmod
  simp only [Nat.reducePow]
  split <;> omega
theorem zi_bm64 (x : Int) : x.bmod (2 ^ 64) = zi_w64 x := by
  unfold zi_w64 Int.bmod
  simp only [Nat.reducePow]
  split <;> omega
theorem zi_oi (x : Int) : (Int32.ofInt x).toInt = zi_w x := by
  rw [Int32.toInt_ofInt]
  exact zi_bm x
theorem zi_oi' {x : Int} (h : zi_ir x) : (Int32.ofInt x).toInt = x := by rw [zi_oi, zi_w_id h]
theorem zi_ol (x : Int) : (Int64.ofInt x).toInt = zi_w64 x := by
  rw [Int64.toInt_ofInt]
  exact zi_bm64 x
theorem zi_ol' {x : Int} (h : zi_in (.inr (.inl x))) : (Int64.ofInt x).toInt = x := by
  rw [zi_ol]
  have h1 : -9223372036854775808 ≤ x ∧ x < 9223372036854775808 := h
  unfold zi_w64; omega
theorem zi_w64_in (x : Int) : zi_in (.inr (.inl (zi_w64 x))) := by
  show -9223372036854775808 ≤ zi_w64 x ∧ zi_w64 x < 9223372036854775808
  unfold zi_w64; omega
theorem zi_to (v : Int32) : Int32.ofInt v.toInt = v := Int32.ofInt_toInt v
theorem zi_tl (v : Int64) : Int64.ofInt v.toInt = v := Int64.ofInt_toInt v
theorem zi_to_ir (v : Int32) : zi_ir v.toInt := by
  have h := zi_oi v.toInt
  rw [zi_to] at h
  rw [h]; exact zi_w_ir _
theorem zi_tl_in (v : Int64) : zi_in (.inr (.inl v.toInt)) := by
  have h := zi_ol v.toInt
  rw [zi_tl] at h
  rw [h]; exact zi_w64_in _
theorem zi_eq32 {a : Int32} {x : Int} (h : a.toInt = x) : a = Int32.ofInt x := by rw [← h, zi_to]
theorem zi_eq64 {a : Int64} {x : Int} (h : a.toInt = x) : a = Int64.ofInt x := by rw [← h, zi_tl]
theorem zi_eqw {a : Int32} {x : Int} (h : a.toInt = zi_w x) : a = Int32.ofInt x := by
  apply Int32.toInt_inj.mp
  rw [h, zi_oi]
theorem zi_ofw (x : Int) : Int32.ofInt (zi_w x) = Int32.ofInt x := by
  apply Int32.toInt_inj.mp
  rw [zi_oi, zi_oi, zi_w_id (zi_w_ir x)]
theorem zi_add {x y : Int} (hx : zi_ir x) (hy : zi_ir y) : Int32.ofInt x + Int32.ofInt y = Int32.ofInt (zi_w (x + y)) := by
  apply zi_eq32
  rw [Int32.toInt_add, zi_oi' hx, zi_oi' hy, zi_bm]
theorem zi_sub {x y : Int} (hx : zi_ir x) (hy : zi_ir y) : Int32.ofInt x - Int32.ofInt y = Int32.ofInt (zi_w (x - y)) := by
  apply zi_eq32
  rw [Int32.toInt_sub, zi_oi' hx, zi_oi' hy, zi_bm]
theorem zi_mul {x y : Int} (hx : zi_ir x) (hy : zi_ir y) : Int32.ofInt x * Int32.ofInt y = Int32.ofInt (zi_w (x * y)) := by
  apply zi_eq32
  rw [Int32.toInt_mul, zi_oi' hx, zi_oi' hy, zi_bm]
theorem zi_divE {x y : Int} (hx : zi_ir x) (hy : zi_ir y) : Int32.ofInt x / Int32.ofInt y = Int32.ofInt (zi_div x y) := by
  apply zi_eq32
  rw [Int32.toInt_div, zi_oi' hx, zi_oi' hy, zi_bm]
  rfl
theorem zi_remE {x y : Int} (hx : zi_ir x) (hy : zi_ir y) : Int32.ofInt x - Int32.ofInt x / Int32.ofInt y * Int32.ofInt y = Int32.ofInt (zi_rem x y) := by
  rw [zi_divE hx hy, zi_mul (show zi_ir (zi_div x y) from zi_w_ir _) hy, zi_sub hx (zi_w_ir _)]
  rfl
theorem zi_lt {x y : Int} (hx : zi_ir x) (hy : zi_ir y) : Int32.ofInt x < Int32.ofInt y ↔ x < y := by
  rw [Int32.lt_iff_toInt_lt, zi_oi' hx, zi_oi' hy]
theorem zi_le {x y : Int} (hx : zi_ir x) (hy : zi_ir y) : Int32.ofInt x ≤ Int32.ofInt y ↔ x ≤ y := by
  rw [Int32.le_iff_toInt_le, zi_oi' hx, zi_oi' hy]
theorem zi_eq {x y : Int} (hx : zi_ir x) (hy : zi_ir y) : Int32.ofInt x = Int32.ofInt y ↔ x = y := by
  rw [← Int32.toInt_inj, zi_oi' hx, zi_oi' hy]
theorem zi_z : (0 : Int32) = Int32.ofInt 0 := by decide
theorem zi_ir0 : zi_ir 0 := by unfold zi_ir; omega
theorem zi_ladd {x y : Int} (hx : zi_in (.inr (.inl x))) (hy : zi_in (.inr (.inl y))) : Int64.ofInt x + Int64.ofInt y = Int64.ofInt (zi_w64 (x + y)) := by
  apply zi_eq64
  rw [Int64.toInt_add, zi_ol' hx, zi_ol' hy, zi_bm64]
theorem zi_lsub {x y : Int} (hx : zi_in (.inr (.inl x))) (hy : zi_in (.inr (.inl y))) : Int64.ofInt x - Int64.ofInt y = Int64.ofInt (zi_w64 (x - y)) := by
  apply zi_eq64
  rw [Int64.toInt_sub, zi_ol' hx, zi_ol' hy, zi_bm64]
theorem zi_llt {x y : Int} (hx : zi_in (.inr (.inl x))) (hy : zi_in (.inr (.inl y))) : Int64.ofInt x < Int64.ofInt y ↔ x < y := by
  rw [Int64.lt_iff_toInt_lt, zi_ol' hx, zi_ol' hy]
theorem zi_leq {x y : Int} (hx : zi_in (.inr (.inl x))) (hy : zi_in (.inr (.inl y))) : Int64.ofInt x = Int64.ofInt y ↔ x = y := by
  rw [← Int64.toInt_inj, zi_ol' hx, zi_ol' hy]
theorem zi_cmp {x y : Int} (hx : zi_in (.inr (.inl x))) (hy : zi_in (.inr (.inl y))) : lg_cmp (Int64.ofInt x) (Int64.ofInt y) = Int32.ofInt (if y < x then 1 else if x = y then 0 else -1) := by
  unfold lg_cmp
  by_cases h1 : y < x
  · rw [if_pos h1, if_pos ((zi_llt hy hx).mpr h1)]; decide
  · rw [if_neg h1, if_neg (fun q => h1 ((zi_llt hy hx).mp q))]
    by_cases h2 : x = y
    · rw [if_pos h2, if_pos ((zi_leq hx hy).mpr h2)]; decide
    · rw [if_neg h2, if_neg (fun q => h2 ((zi_leq hx hy).mp q))]; decide
theorem zi_i2l {x : Int} (hx : zi_ir x) : (Int32.ofInt x).toInt64 = Int64.ofInt x := by
  apply zi_eq64
  rw [Int32.toInt_toInt64, zi_oi' hx]
theorem zi_i2l_in {x : Int} (hx : zi_ir x) : zi_in (.inr (.inl x)) := by
  show -9223372036854775808 ≤ x ∧ x < 9223372036854775808
  unfold zi_ir at hx; omega
theorem zi_l2i {x : Int} (hx : zi_in (.inr (.inl x))) : (Int64.ofInt x).toInt32 = Int32.ofInt (zi_w x) := by
  apply zi_eq32
  rw [Int64.toInt_toInt32, zi_ol' hx, zi_bm]
theorem zi_andE (x y : Int) : Int32.ofInt x &&& Int32.ofInt y = Int32.ofInt (zi_and x y) := zi_eq32 rfl
theorem zi_and_ir (x y : Int) : zi_ir (zi_and x y) := zi_to_ir _
theorem zi_xorE (x y : Int) : Int32.ofInt x ^^^ Int32.ofInt y = Int32.ofInt (zi_xor x y) := zi_eq32 rfl
theorem zi_xor_ir (x y : Int) : zi_ir (zi_xor x y) := zi_to_ir _
theorem zi_shrE (x y : Int) : Int32.ofInt x >>> (Int32.ofInt y &&& 31) = Int32.ofInt (zi_shr x y) := zi_eq32 rfl
theorem zi_shr_ir (x y : Int) : zi_ir (zi_shr x y) := zi_to_ir _
theorem zi_landE (x y : Int) : Int64.ofInt x &&& Int64.ofInt y = Int64.ofInt (zi_land x y) := zi_eq64 rfl
theorem zi_lorE (x y : Int) : Int64.ofInt x ||| Int64.ofInt y = Int64.ofInt (zi_lor x y) := zi_eq64 rfl
theorem zi_lxorE (x y : Int) : Int64.ofInt x ^^^ Int64.ofInt y = Int64.ofInt (zi_lxor x y) := zi_eq64 rfl
theorem zi_lshlE (x y : Int) : Int64.ofInt x <<< ((Int32.ofInt y).toInt64 &&& 63) = Int64.ofInt (zi_lshl x y) := zi_eq64 rfl
theorem zi_i2bE (x : Int) : (Int32.ofInt x).toInt8.toInt32 = Int32.ofInt (zi_i2b x) := zi_eq32 rfl
theorem zi_i2sE (x : Int) : (Int32.ofInt x).toInt16.toInt32 = Int32.ofInt (zi_i2s x) := zi_eq32 rfl
theorem zi_i2cE (x : Int) : ((Int32.ofInt x).toUInt32 % 65536).toInt32 = Int32.ofInt (zi_i2c x) := zi_eq32 rfl
theorem zi_max {x y : Int} (hx : zi_ir x) (hy : zi_ir y) : (if Int32.ofInt x < Int32.ofInt y then Int32.ofInt y else Int32.ofInt x) = Int32.ofInt (if x < y then y else x) := by
  by_cases h : x < y
  · rw [if_pos h, if_pos ((zi_lt hx hy).mpr h)]
  · rw [if_neg h, if_neg (fun q => h ((zi_lt hx hy).mp q))]
theorem zi_min {x y : Int} (hx : zi_ir x) (hy : zi_ir y) : (if Int32.ofInt y < Int32.ofInt x then Int32.ofInt y else Int32.ofInt x) = Int32.ofInt (if y < x then y else x) := by
  by_cases h : y < x
  · rw [if_pos h, if_pos ((zi_lt hy hx).mpr h)]
  · rw [if_neg h, if_neg (fun q => h ((zi_lt hy hx).mp q))]
theorem zi_lmax {x y : Int} (hx : zi_in (.inr (.inl x))) (hy : zi_in (.inr (.inl y))) : (if Int64.ofInt y < Int64.ofInt x then Int64.ofInt x else Int64.ofInt y) = Int64.ofInt (if y < x then x else y) := by
  by_cases h : y < x
  · rw [if_pos h, if_pos ((zi_llt hy hx).mpr h)]
  · rw [if_neg h, if_neg (fun q => h ((zi_llt hy hx).mp q))]
theorem zi_lmin {x y : Int} (hx : zi_in (.inr (.inl x))) (hy : zi_in (.inr (.inl y))) : (if Int64.ofInt y < Int64.ofInt x then Int64.ofInt y else Int64.ofInt x) = Int64.ofInt (if y < x then y else x) := by
  by_cases h : y < x
  · rw [if_pos h, if_pos ((zi_llt hy hx).mpr h)]
  · rw [if_neg h, if_neg (fun q => h ((zi_llt hy hx).mp q))]
/-- an index -/
theorem zi_idx {j n : Int} (hj : zi_ir j) (h0 : 0 ≤ j) (hn : j < n) : vp_in (Int32.ofInt j) n.toNat ∧ ((Int32.ofInt j).toNatClampNeg : Int) = j := by
  have h1 : (Int32.ofInt j).toNatClampNeg = j.toNat := by
    show (Int32.ofInt j).toInt.toNat = _
    rw [zi_oi' hj]
  refine ⟨?_, by rw [h1]; omega⟩
  rintro (h | h)
  · rw [zi_z, zi_lt hj zi_ir0] at h; omega
  · rw [h1] at h; omega
