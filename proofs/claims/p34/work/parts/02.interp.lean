/-! A small machine of whole numbers: what a method does to a memory of whole numbers, as a function. -/
abbrev zV : Type := Int ⊕ Int ⊕ Int
abbrev zM : Type := (Int → Nat × Int) × (Int → Int → Int) × (Int → Int → Int) × Int × Nat
abbrev zL : Type := List (Option zV)
abbrev zR : Type := Option (Int × zM)
abbrev zC : Type := Nat × Instr × Nat × Int × List (Int × Nat)
abbrev zT : Type := List zC × List (Nat × List Bool) × Nat × Nat
def zi_w (x : Int) : Int := (x + 2147483648) % 4294967296 - 2147483648
def zi_w64 (x : Int) : Int := (x + 9223372036854775808) % 18446744073709551616 - 9223372036854775808
def zi_rem (x y : Int) : Int := zi_w (x - zi_w (zi_w (x.tdiv y) * y))
def zi_div (x y : Int) : Int := zi_w (x.tdiv y)
def zi_and (x y : Int) : Int := (Int32.ofInt x &&& Int32.ofInt y).toInt
def zi_xor (x y : Int) : Int := (Int32.ofInt x ^^^ Int32.ofInt y).toInt
def zi_shr (x y : Int) : Int := (Int32.ofInt x >>> (Int32.ofInt y &&& 31)).toInt
def zi_land (x y : Int) : Int := (Int64.ofInt x &&& Int64.ofInt y).toInt
def zi_lor (x y : Int) : Int := (Int64.ofInt x ||| Int64.ofInt y).toInt
def zi_lxor (x y : Int) : Int := (Int64.ofInt x ^^^ Int64.ofInt y).toInt
def zi_lshl (x y : Int) : Int := (Int64.ofInt x <<< ((Int32.ofInt y).toInt64 &&& 63)).toInt
def zi_i2b (x : Int) : Int := (Int32.ofInt x).toInt8.toInt32.toInt
def zi_i2s (x : Int) : Int := (Int32.ofInt x).toInt16.toInt32.toInt
def zi_i2c (x : Int) : Int := ((Int32.ofInt x).toUInt32 % 65536).toInt32.toInt
def zi_find : List zC → Nat → Option (Instr × Nat × Int × List (Int × Nat))
  | [], _ => none
  | c :: r, pc => bif Nat.beq c.1 pc then some c.2 else zi_find r pc
def zi_cut : List (Nat × List Bool) → Nat → Option (List Bool)
  | [], _ => none
  | c :: r, pc => bif Nat.beq c.1 pc then some c.2 else zi_cut r pc
def zi_mask : List Bool → zL → zL
  | [], _ => []
  | _, [] => []
  | b :: m, v :: l => (bif b then v else none) :: zi_mask m l
def zi_get : zL → Nat → Option zV
  | [], _ => none
  | v :: _, 0 => v
  | _ :: l, i + 1 => zi_get l i
def zi_set : zL → Nat → zV → Option zL
  | [], _, _ => none
  | _ :: l, 0, v => some (some v :: l)
  | some (.inr (.inl x)) :: l, i + 1, v => match i with
    | 0 => none
    | i + 1 => (zi_set l (i + 1) v).map fun l' => some (.inr (.inl x)) :: l'
  | w :: l, i + 1, v => (zi_set l i v).map fun l' => w :: l'
def zi_ro (x : Int) : Option Nat := if x ≤ 0 then none else some (x.toNat - 1)
def zi_c1 : zV → Bool
  | .inr (.inl _) => false
  | _ => true
def zi_cats : List zV → Nat
  | [] => 0
  | .inr (.inl _) :: r => 2 + zi_cats r
  | _ :: r => 1 + zi_cats r
def zi_take : Nat → List zV → List zV → Option (List zV × List zV)
  | 0, acc, st => some (acc, st)
  | _ + 1, _, [] => none
  | n + 1, acc, v :: st => zi_take n (v :: acc) st
def zi_mkv (t : Nat) (x : Int) : zV := match t with
  | 3 => .inr (.inr x)
  | 4 => .inr (.inl x)
  | _ => .inl x
def zi_push (t : Nat) (x : Int) (r : List zV) : List zV := match t with
  | 0 => r
  | 3 => .inr (.inr x) :: r
  | 4 => .inr (.inl x) :: r
  | _ => .inl x :: r
def zi_up (M : Int → Int → Int) (a k v : Int) : Int → Int → Int := fun a' k' => if a' = a ∧ k' = k then v else M a' k'
def zi_wr (σ : zM) (a k v : Int) : zM := (σ.1, zi_up σ.2.1 a k v, σ.2.2)
def zi_wq (σ : zM) (a k v : Int) : zM := (σ.1, σ.2.1, zi_up σ.2.2.1 a k v, σ.2.2.2)
/-- what is at a place: a number, a reference -/
def zi_rd (σ : zM) (t : Nat) (a k : Int) : Int := match t with
  | 3 => σ.2.2.1 a k
  | _ => σ.2.1 a k
def zi_new (σ : zM) (kd : Nat) (n : Int) (sl : Nat) : zM := (fun x => if x = σ.2.2.2.1 then (kd, n) else σ.1 x, fun x k => if x = σ.2.2.2.1 then 0 else σ.2.1 x k, fun x k => if x = σ.2.2.2.1 then 0 else σ.2.2.1 x k, σ.2.2.2.1 + 1, σ.2.2.2.2 + sl)
def zi_if (c : Jvm.ClassFile.Cond) (x y : Int) (A B : zR) : zR := match c with
  | .eq => if x = y then A else B
  | .ne => if x = y then B else A
  | .lt => if x < y then A else B
  | .ge => if x < y then B else A
  | .gt => if y < x then A else B
  | .le => if y < x then B else A
def zi_sw : List (Int × Nat) → Nat → Int → (Nat → zR) → zR
  | [], d, _, k => k d
  | c :: r, d, x, k => if x = c.1 then k c.2 else zi_sw r d x k
/-- the kinds of the fields of each class of objects: 1 int, 2 boolean, 3 a reference -/
def zi_fts : List (List Nat) := [[1, 3, 3, 3], [3, 3, 1, 1], [3, 1, 1], [3, 3, 2], [1, 1, 1, 3, 3, 3, 3, 3, 3, 3, 3], [1, 3, 3], [3, 3], [1, 1, 1, 1], [2, 1, 1, 3], [3, 3, 1, 1, 1, 1], [3, 3, 3, 3, 3, 3, 3, 3, 1, 1]]
def zi_ft (c k : Nat) : Nat := (zi_fts.getD c []).getD k 0
/-- one instruction; what follows is 'nx', a call is 'G' -/
def zi_ex (t : zT) (G : Nat → List zV → zM → zR) (nx : Nat → zL → List zV → zM → zR) (pc : Nat) (ls : zL) (st : List zV) (σ : zM) : zR :=
  match zi_find t.1 pc with
  | none => none
  | some (ins, a, b, sw) => match ins with
    | .iconst _ => nx (pc + 1) ls (.inl b :: st) σ
    | .bipush _ => nx (pc + 2) ls (.inl b :: st) σ
    | .sipush _ => nx (pc + 3) ls (.inl b :: st) σ
    | .ldc_w _ => nx (pc + 3) ls (.inl b :: st) σ
    | .lconst _ => nx (pc + 1) ls (.inr (.inl b) :: st) σ
    | .ldc2_w _ => nx (pc + 3) ls (.inr (.inl b) :: st) σ
    | .ldc _ => nx (pc + 2) ls (.inl b :: st) σ
    | .aconst_null => nx (pc + 1) ls (.inr (.inr 0) :: st) σ
    | .iload_n _ => match zi_get ls a with
      | some (.inl x) => nx (pc + 1) ls (.inl x :: st) σ
      | _ => none
    | .iload _ => match zi_get ls a with
      | some (.inl x) => nx (pc + 2) ls (.inl x :: st) σ
      | _ => none
    | .lload_n _ => match zi_get ls a with
      | some (.inr (.inl x)) => nx (pc + 1) ls (.inr (.inl x) :: st) σ
      | _ => none
    | .lload _ => match zi_get ls a with
      | some (.inr (.inl x)) => nx (pc + 2) ls (.inr (.inl x) :: st) σ
      | _ => none
    | .aload_n _ => match zi_get ls a with
      | some (.inr (.inr x)) => nx (pc + 1) ls (.inr (.inr x) :: st) σ
      | _ => none
    | .aload _ => match zi_get ls a with
      | some (.inr (.inr x)) => nx (pc + 2) ls (.inr (.inr x) :: st) σ
      | _ => none
    | .istore_n _ => match st with
      | .inl x :: r => match zi_set ls a (.inl x) with
        | some ls' => nx (pc + 1) ls' r σ
        | none => none
      | _ => none
    | .istore _ => match st with
      | .inl x :: r => match zi_set ls a (.inl x) with
        | some ls' => nx (pc + 2) ls' r σ
        | none => none
      | _ => none
    | .astore_n _ => match st with
      | .inr (.inr x) :: r => match zi_set ls a (.inr (.inr x)) with
        | some ls' => nx (pc + 1) ls' r σ
        | none => none
      | _ => none
    | .astore _ => match st with
      | .inr (.inr x) :: r => match zi_set ls a (.inr (.inr x)) with
        | some ls' => nx (pc + 2) ls' r σ
        | none => none
      | _ => none
    | .lstore_n _ => match st with
      | .inr (.inl x) :: r => match zi_set ls (a + 1) (.inl 0) with
        | some l1 => match zi_set l1 a (.inr (.inl x)) with
          | some l2 => nx (pc + 1) (zi_mask ((List.range l2.length).map fun i => !(Nat.beq i (a + 1))) l2) r σ
          | none => none
        | none => none
      | _ => none
    | .lstore _ => match st with
      | .inr (.inl x) :: r => match zi_set ls (a + 1) (.inl 0) with
        | some l1 => match zi_set l1 a (.inr (.inl x)) with
          | some l2 => nx (pc + 2) (zi_mask ((List.range l2.length).map fun i => !(Nat.beq i (a + 1))) l2) r σ
          | none => none
        | none => none
      | _ => none
    | .iinc _ _ => match zi_get ls a with
      | some (.inl x) => match zi_set ls a (.inl (zi_w (x + b))) with
        | some ls' => nx (pc + 3) ls' st σ
        | none => none
      | _ => none
    | .iadd => match st with
      | .inl y :: .inl x :: r => nx (pc + 1) ls (.inl (zi_w (x + y)) :: r) σ
      | _ => none
    | .isub => match st with
      | .inl y :: .inl x :: r => nx (pc + 1) ls (.inl (zi_w (x - y)) :: r) σ
      | _ => none
    | .imul => match st with
      | .inl y :: .inl x :: r => nx (pc + 1) ls (.inl (zi_w (x * y)) :: r) σ
      | _ => none
    | .idiv => match st with
      | .inl y :: .inl x :: r => if y = 0 then none else nx (pc + 1) ls (.inl (zi_div x y) :: r) σ
      | _ => none
    | .irem => match st with
      | .inl y :: .inl x :: r => if y = 0 then none else nx (pc + 1) ls (.inl (zi_rem x y) :: r) σ
      | _ => none
    | .iand => match st with
      | .inl y :: .inl x :: r => nx (pc + 1) ls (.inl (zi_and x y) :: r) σ
      | _ => none
    | .ixor => match st with
      | .inl y :: .inl x :: r => nx (pc + 1) ls (.inl (zi_xor x y) :: r) σ
      | _ => none
    | .ishr => match st with
      | .inl y :: .inl x :: r => nx (pc + 1) ls (.inl (zi_shr x y) :: r) σ
      | _ => none
    | .ladd => match st with
      | .inr (.inl y) :: .inr (.inl x) :: r => nx (pc + 1) ls (.inr (.inl (zi_w64 (x + y))) :: r) σ
      | _ => none
    | .lsub => match st with
      | .inr (.inl y) :: .inr (.inl x) :: r => nx (pc + 1) ls (.inr (.inl (zi_w64 (x - y))) :: r) σ
      | _ => none
    | .land => match st with
      | .inr (.inl y) :: .inr (.inl x) :: r => nx (pc + 1) ls (.inr (.inl (zi_land x y)) :: r) σ
      | _ => none
    | .lor => match st with
      | .inr (.inl y) :: .inr (.inl x) :: r => nx (pc + 1) ls (.inr (.inl (zi_lor x y)) :: r) σ
      | _ => none
    | .lxor => match st with
      | .inr (.inl y) :: .inr (.inl x) :: r => nx (pc + 1) ls (.inr (.inl (zi_lxor x y)) :: r) σ
      | _ => none
    | .lshl => match st with
      | .inl y :: .inr (.inl x) :: r => nx (pc + 1) ls (.inr (.inl (zi_lshl x y)) :: r) σ
      | _ => none
    | .lcmp => match st with
      | .inr (.inl y) :: .inr (.inl x) :: r => nx (pc + 1) ls (.inl (if y < x then 1 else if x = y then 0 else -1) :: r) σ
      | _ => none
    | .i2l => match st with
      | .inl x :: r => nx (pc + 1) ls (.inr (.inl x) :: r) σ
      | _ => none
    | .l2i => match st with
      | .inr (.inl x) :: r => nx (pc + 1) ls (.inl (zi_w x) :: r) σ
      | _ => none
    | .i2b => match st with
      | .inl x :: r => nx (pc + 1) ls (.inl (zi_i2b x) :: r) σ
      | _ => none
    | .i2c => match st with
      | .inl x :: r => nx (pc + 1) ls (.inl (zi_i2c x) :: r) σ
      | _ => none
    | .i2s => match st with
      | .inl x :: r => nx (pc + 1) ls (.inl (zi_i2s x) :: r) σ
      | _ => none
    | .dup => match st with
      | v :: r => bif zi_c1 v then nx (pc + 1) ls (v :: v :: r) σ else none
      | _ => none
    | .dup2 => match st with
      | v :: w :: r => bif zi_c1 v && zi_c1 w then nx (pc + 1) ls (v :: w :: v :: w :: r) σ else none
      | _ => none
    | .pop => match st with
      | v :: r => bif zi_c1 v then nx (pc + 1) ls r σ else none
      | _ => none
    | .ifCond c _ => match st with
      | .inl x :: r => zi_if c x 0 (nx a ls r σ) (nx (pc + 3) ls r σ)
      | _ => none
    | .if_icmp c _ => match st with
      | .inl y :: .inl x :: r => zi_if c x y (nx a ls r σ) (nx (pc + 3) ls r σ)
      | _ => none
    | .ifnull _ => match st with
      | .inr (.inr x) :: r => if x = 0 then nx a ls r σ else nx (pc + 3) ls r σ
      | _ => none
    | .ifnonnull _ => match st with
      | .inr (.inr x) :: r => if x = 0 then nx (pc + 3) ls r σ else nx a ls r σ
      | _ => none
    | .goto _ => nx a ls st σ
    | .tableswitch _ _ _ _ => match st with
      | .inl x :: r => zi_sw sw a x fun pc' => nx pc' ls r σ
      | _ => none
    | .lookupswitch _ _ => match st with
      | .inl x :: r => zi_sw sw a x fun pc' => nx pc' ls r σ
      | _ => none
    | .getfield _ => match st with
      | .inr (.inr p) :: r => if (σ.1 p).1 = a then nx (pc + 3) ls (zi_mkv (zi_ft a b.toNat) (zi_rd σ (zi_ft a b.toNat) p b) :: r) σ else none
      | _ => none
    | .putfield _ => match zi_ft a b.toNat with
      | 1 => match st with
        | .inl v :: .inr (.inr p) :: r => if (σ.1 p).1 = a then nx (pc + 3) ls r (zi_wr σ p b v) else none
        | _ => none
      | 2 => match st with
        | .inl v :: .inr (.inr p) :: r => if (σ.1 p).1 = a ∧ (v = 0 ∨ v = 1) then nx (pc + 3) ls r (zi_wr σ p b v) else none
        | _ => none
      | 3 => match st with
        | .inr (.inr v) :: .inr (.inr p) :: r => if (σ.1 p).1 = a then nx (pc + 3) ls r (zi_wq σ p b v) else none
        | _ => none
      | _ => none
    | .iaload => match st with
      | .inl j :: .inr (.inr p) :: r => if (σ.1 p).1 = a ∧ 0 ≤ j ∧ j < (σ.1 p).2 then nx (pc + 1) ls (.inl (σ.2.1 p j) :: r) σ else none
      | _ => none
    | .iastore => match st with
      | .inl v :: .inl j :: .inr (.inr p) :: r => if (σ.1 p).1 = 12 ∧ 0 ≤ j ∧ j < (σ.1 p).2 then nx (pc + 1) ls r (zi_wr σ p j v) else none
      | _ => none
    | .baload => match st with
      | .inl j :: .inr (.inr p) :: r => if (σ.1 p).1 = 13 ∧ 0 ≤ j ∧ j < (σ.1 p).2 then nx (pc + 1) ls (.inl (σ.2.1 p j) :: r) σ else none
      | _ => none
    | .bastore => match st with
      | .inl v :: .inl j :: .inr (.inr p) :: r => if ((σ.1 p).1 = 13 ∧ 0 ≤ j ∧ j < (σ.1 p).2) ∧ (v = 0 ∨ v = 1) then nx (pc + 1) ls r (zi_wr σ p j v) else none
      | _ => none
    | .laload => match st with
      | .inl j :: .inr (.inr p) :: r => if (σ.1 p).1 = 19 ∧ 0 ≤ j ∧ j < (σ.1 p).2 then nx (pc + 1) ls (.inr (.inl (σ.2.1 p j)) :: r) σ else none
      | _ => none
    | .lastore => match st with
      | .inr (.inl v) :: .inl j :: .inr (.inr p) :: r => if (σ.1 p).1 = 19 ∧ 0 ≤ j ∧ j < (σ.1 p).2 then nx (pc + 1) ls r (zi_wr σ p j v) else none
      | _ => none
    | .aaload => match st with
      | .inl j :: .inr (.inr p) :: r => if (σ.1 p).1 = a ∧ 0 ≤ j ∧ j < (σ.1 p).2 then nx (pc + 1) ls (.inr (.inr (σ.2.2.1 p j)) :: r) σ else none
      | _ => none
    | .aastore => match st with
      | .inr (.inr v) :: .inl j :: .inr (.inr p) :: r => if ((σ.1 p).1 = a ∧ 0 ≤ j ∧ j < (σ.1 p).2) ∧ ((σ.1 v).1 : Int) = b then nx (pc + 1) ls r (zi_wq σ p j v) else none
      | _ => none
    | .arraylength => match st with
      | .inr (.inr p) :: r => if (σ.1 p).1 = a then nx (pc + 1) ls (.inl (σ.1 p).2 :: r) σ else none
      | _ => none
    | .newarray _ => match st with
      | .inl n :: r => if 0 ≤ n ∧ n ≤ 100000 then nx (pc + 2) ls (.inr (.inr σ.2.2.2.1) :: r) (zi_new σ a n n.toNat) else none
      | _ => none
    | .anewarray _ => match st with
      | .inl n :: r => if 0 ≤ n ∧ n ≤ 100000 then nx (pc + 3) ls (.inr (.inr σ.2.2.2.1) :: r) (zi_new σ a n n.toNat) else none
      | _ => none
    | .new _ => nx (pc + 3) ls (.inr (.inr σ.2.2.2.1) :: st) (zi_new σ a 0 b.toNat)
    | .invokestatic _ => match sw with
      | (n, rk) :: _ => match zi_take n.toNat [] st with
        | some (args, r) => bif Nat.ble (zi_cats r) 8 then (G a args σ).bind fun q => nx (pc + 3) ls (zi_push rk q.1 r) q.2 else none
        | none => none
      | _ => none
    | .invokevirtual _ => match sw with
      | (n, rk) :: _ => match zi_take n.toNat [] st with
        | some (.inr (.inr p) :: args, r) => bif Nat.ble (zi_cats r) 8 then (if ((σ.1 p).1 : Int) = b then (G a (.inr (.inr p) :: args) σ).bind fun q => nx (pc + 3) ls (zi_push rk q.1 r) q.2 else none) else none
        | _ => none
      | _ => none
    | .invokespecial _ => match sw with
      | (n, rk) :: _ => match zi_take n.toNat [] st with
        | some (.inr (.inr p) :: args, r) => bif Nat.ble (zi_cats r) 8 then (if ((σ.1 p).1 : Int) = b then (G a (.inr (.inr p) :: args) σ).bind fun q => nx (pc + 3) ls (zi_push rk q.1 r) q.2 else none) else none
        | _ => none
      | _ => none
    | .ireturn => match st with
      | [.inl x] => match t.2.2.2 with
        | 1 => some (x, σ)
        | 2 => if x = 0 ∨ x = 1 then some (x, σ) else none
        | _ => none
      | _ => none
    | .areturn => match st with
      | [.inr (.inr x)] => match t.2.2.2 with
        | 3 => some (x, σ)
        | _ => none
      | _ => none
    | .return_ => match st with
      | [] => match t.2.2.2 with
        | 0 => some (0, σ)
        | _ => none
      | _ => none
    | _ => none
/-- a stretch of code up to a cut -/
def zi_fr (t : zT) (G : Nat → List zV → zM → zR) (K : Nat → zL → List zV → zM → zR) : Nat → Nat → zL → List zV → zM → zR
  | 0 => fun _ _ _ _ => none
  | n + 1 => fun pc ls st σ => zi_ex t G (fun pc' ls' st' σ' => match zi_cut t.2.1 pc' with
    | some live => K pc' (zi_mask live ls') st' σ'
    | none => zi_fr t G K n pc' ls' st' σ') pc ls st σ
def zi_run (t : zT) (G : Nat → List zV → zM → zR) : Nat → Nat → zL → List zV → zM → zR
  | 0 => fun _ _ _ _ => none
  | n + 1 => fun pc ls st σ => zi_fr t G (zi_run t G n) 600 pc ls st σ
/-- the locals at the entry -/
def zi_args : List zV → zL
  | [] => []
  | .inr (.inl x) :: r => some (.inr (.inl x)) :: none :: zi_args r
  | v :: r => some v :: zi_args r
def zi_loc (vs : List zV) (n : Nat) : zL := zi_args vs ++ List.replicate (n - (zi_args vs).length) none
def zi_cpy (M : Int → Int → Int) (p q s d n : Int) : Int → Int → Int := fun a k => if a = q ∧ d ≤ k ∧ k < d + n then M p (s + (k - d)) else M a k
/-- what is not bytecode of the class: Object(), Math, arraycopy -/
def zi_nat (j : Nat) (vs : List zV) (σ : zM) : zR := match j, vs with
  | 1000, [.inr (.inr _)] => some (0, σ)
  | 1001, [.inl x, .inl y] => some (if x < y then y else x, σ)
  | 1002, [.inl x, .inl y] => some (if y < x then y else x, σ)
  | 1003, [.inr (.inl x), .inr (.inl y)] => some (if y < x then x else y, σ)
  | 1004, [.inr (.inl x), .inr (.inl y)] => some (if y < x then y else x, σ)
  | 1005, [.inr (.inr p), .inl s, .inr (.inr q), .inl d, .inl n] => if ((σ.1 p).1 = 12 ∧ (σ.1 q).1 = 12) ∧ 0 ≤ s ∧ 0 ≤ d ∧ 0 ≤ n ∧ s + n ≤ (σ.1 p).2 ∧ d + n ≤ (σ.1 q).2 then some (0, (σ.1, zi_cpy σ.2.1 p q s d n, σ.2.2)) else none
  | _, _ => none
def zi_G (tab : Nat → zT) : Nat → Nat → List zV → zM → zR
  | 0 => fun _ _ _ => none
  | d + 1 => fun j vs σ => bif Nat.ble 1000 j then zi_nat j vs σ else bif Nat.ble (zi_args vs).length (tab j).2.2.1 then zi_run (tab j) (zi_G tab d) 1020000 0 (zi_loc vs (tab j).2.2.1) [] σ else none
