section
-- ===== PART A: goes FIRST, ahead of the names: the tables' words, and 'selects' of the private methods out of them =====
/-- a private method of a class that the tables say can be made, by its rows of tables_1 -/
def lw_okq (q : MethodName × Nat) : Prop := (q.1.cls ≠ "java/lang/invoke/MethodHandle" ∧ q.1.cls ≠ "java/lang/invoke/VarHandle") ∧ Cond.instantiable q.1.cls q.2 ∈ tables_1 ∧ Cond.privateMethod q.1 ∈ tables_1 ∧ Cond.instanceMethod q.1 ∈ tables_1
theorem lw_p0 : lw_okq (⟨"FoldedRows", "layAll", "()V"⟩, 10) := ⟨⟨by decide +kernel, by decide +kernel⟩, List.mem_of_getElem? (i := 16) (by decide +kernel), List.mem_of_getElem? (i := 267) (by decide +kernel), List.mem_of_getElem? (i := 268) (by decide +kernel)⟩
theorem lw_p1 : lw_okq (⟨"FoldedRows$LaidLine", "leadingCells", "(LFoldedRows$Lines;ILFoldedRows$Settings;)I"⟩, 11) := ⟨⟨by decide +kernel, by decide +kernel⟩, List.mem_of_getElem? (i := 171) (by decide +kernel), List.mem_of_getElem? (i := 290) (by decide +kernel), List.mem_of_getElem? (i := 291) (by decide +kernel)⟩
theorem lw_p2 : lw_okq (⟨"FoldedRows$LaidLine", "findBreaks", "(LFoldedRows$Lines;I)V"⟩, 11) := ⟨⟨by decide +kernel, by decide +kernel⟩, List.mem_of_getElem? (i := 171) (by decide +kernel), List.mem_of_getElem? (i := 308) (by decide +kernel), List.mem_of_getElem? (i := 309) (by decide +kernel)⟩
theorem lw_p3 : lw_okq (⟨"FoldedRows$LaidLine", "fillRow", "(LFoldedRows$Lines;IILFoldedRows$Settings;)I"⟩, 11) := ⟨⟨by decide +kernel, by decide +kernel⟩, List.mem_of_getElem? (i := 171) (by decide +kernel), List.mem_of_getElem? (i := 323) (by decide +kernel), List.mem_of_getElem? (i := 324) (by decide +kernel)⟩
theorem lw_p4 : lw_okq (⟨"FoldedRows$LaidLine", "rowEnd", "(II)I"⟩, 11) := ⟨⟨by decide +kernel, by decide +kernel⟩, List.mem_of_getElem? (i := 171) (by decide +kernel), List.mem_of_getElem? (i := 350) (by decide +kernel), List.mem_of_getElem? (i := 351) (by decide +kernel)⟩
theorem lw_p5 : lw_okq (⟨"FoldedRows$LaidLine", "findStops", "(LFoldedRows$Lines;I)V"⟩, 11) := ⟨⟨by decide +kernel, by decide +kernel⟩, List.mem_of_getElem? (i := 171) (by decide +kernel), List.mem_of_getElem? (i := 362) (by decide +kernel), List.mem_of_getElem? (i := 363) (by decide +kernel)⟩
theorem lw_p6 : lw_okq (⟨"FoldedRows", "settleCaret", "()V"⟩, 10) := ⟨⟨by decide +kernel, by decide +kernel⟩, List.mem_of_getElem? (i := 16) (by decide +kernel), List.mem_of_getElem? (i := 366) (by decide +kernel), List.mem_of_getElem? (i := 367) (by decide +kernel)⟩
theorem lw_p7 : lw_okq (⟨"FoldedRows", "moveCaret", "(II)V"⟩, 10) := ⟨⟨by decide +kernel, by decide +kernel⟩, List.mem_of_getElem? (i := 16) (by decide +kernel), List.mem_of_getElem? (i := 379) (by decide +kernel), List.mem_of_getElem? (i := 380) (by decide +kernel)⟩
theorem lw_p8 : lw_okq (⟨"FoldedRows", "caretColumn", "()I"⟩, 10) := ⟨⟨by decide +kernel, by decide +kernel⟩, List.mem_of_getElem? (i := 16) (by decide +kernel), List.mem_of_getElem? (i := 383) (by decide +kernel), List.mem_of_getElem? (i := 384) (by decide +kernel)⟩
theorem lw_p9 : lw_okq (⟨"FoldedRows$Tape", "readByte", "(ILFoldedRows$Frame;)I"⟩, 6) := ⟨⟨by decide +kernel, by decide +kernel⟩, List.mem_of_getElem? (i := 24) (by decide +kernel), List.mem_of_getElem? (i := 478) (by decide +kernel), List.mem_of_getElem? (i := 479) (by decide +kernel)⟩
theorem lw_p10 : lw_okq (⟨"FoldedRows$Tape", "endLine", "(LFoldedRows$Lines;)I"⟩, 6) := ⟨⟨by decide +kernel, by decide +kernel⟩, List.mem_of_getElem? (i := 24) (by decide +kernel), List.mem_of_getElem? (i := 482) (by decide +kernel), List.mem_of_getElem? (i := 483) (by decide +kernel)⟩
theorem lw_p11 : lw_okq (⟨"FoldedRows$Tape", "beginFold", "(I)I"⟩, 6) := ⟨⟨by decide +kernel, by decide +kernel⟩, List.mem_of_getElem? (i := 24) (by decide +kernel), List.mem_of_getElem? (i := 490) (by decide +kernel), List.mem_of_getElem? (i := 491) (by decide +kernel)⟩
theorem lw_p12 : lw_okq (⟨"FoldedRows$Tape", "endFold", "(LFoldedRows$Folds;I)I"⟩, 6) := ⟨⟨by decide +kernel, by decide +kernel⟩, List.mem_of_getElem? (i := 24) (by decide +kernel), List.mem_of_getElem? (i := 494) (by decide +kernel), List.mem_of_getElem? (i := 495) (by decide +kernel)⟩
theorem lw_p13 : lw_okq (⟨"FoldedRows$Folds", "write", "(IIII)V"⟩, 4) := ⟨⟨by decide +kernel, by decide +kernel⟩, List.mem_of_getElem? (i := 111) (by decide +kernel), List.mem_of_getElem? (i := 521) (by decide +kernel), List.mem_of_getElem? (i := 522) (by decide +kernel)⟩
theorem lw_p14 : lw_okq (⟨"FoldedRows", "forgetImage", "(I)V"⟩, 10) := ⟨⟨by decide +kernel, by decide +kernel⟩, List.mem_of_getElem? (i := 16) (by decide +kernel), List.mem_of_getElem? (i := 539) (by decide +kernel), List.mem_of_getElem? (i := 540) (by decide +kernel)⟩
theorem lw_p15 : lw_okq (⟨"FoldedRows", "imageOf", "(I)LFoldedRows$Image;"⟩, 10) := ⟨⟨by decide +kernel, by decide +kernel⟩, List.mem_of_getElem? (i := 16) (by decide +kernel), List.mem_of_getElem? (i := 543) (by decide +kernel), List.mem_of_getElem? (i := 544) (by decide +kernel)⟩
def lw_privs_1 : List (MethodName × Nat) := [(⟨"FoldedRows", "layAll", "()V"⟩, 10), (⟨"FoldedRows$LaidLine", "leadingCells", "(LFoldedRows$Lines;ILFoldedRows$Settings;)I"⟩, 11), (⟨"FoldedRows$LaidLine", "findBreaks", "(LFoldedRows$Lines;I)V"⟩, 11), (⟨"FoldedRows$LaidLine", "fillRow", "(LFoldedRows$Lines;IILFoldedRows$Settings;)I"⟩, 11), (⟨"FoldedRows$LaidLine", "rowEnd", "(II)I"⟩, 11), (⟨"FoldedRows$LaidLine", "findStops", "(LFoldedRows$Lines;I)V"⟩, 11), (⟨"FoldedRows", "settleCaret", "()V"⟩, 10), (⟨"FoldedRows", "moveCaret", "(II)V"⟩, 10), (⟨"FoldedRows", "caretColumn", "()I"⟩, 10), (⟨"FoldedRows$Tape", "readByte", "(ILFoldedRows$Frame;)I"⟩, 6), (⟨"FoldedRows$Tape", "endLine", "(LFoldedRows$Lines;)I"⟩, 6), (⟨"FoldedRows$Tape", "beginFold", "(I)I"⟩, 6), (⟨"FoldedRows$Tape", "endFold", "(LFoldedRows$Folds;I)I"⟩, 6), (⟨"FoldedRows$Folds", "write", "(IIII)V"⟩, 4), (⟨"FoldedRows", "forgetImage", "(I)V"⟩, 10), (⟨"FoldedRows", "imageOf", "(I)LFoldedRows$Image;"⟩, 10)]
theorem lw_r1 : ∀ q ∈ lw_privs_1, lw_okq q := List.forall_mem_cons.mpr ⟨lw_p0, List.forall_mem_cons.mpr ⟨lw_p1, List.forall_mem_cons.mpr ⟨lw_p2, List.forall_mem_cons.mpr ⟨lw_p3, List.forall_mem_cons.mpr ⟨lw_p4, List.forall_mem_cons.mpr ⟨lw_p5, List.forall_mem_cons.mpr ⟨lw_p6, List.forall_mem_cons.mpr ⟨lw_p7, List.forall_mem_cons.mpr ⟨lw_p8, List.forall_mem_cons.mpr ⟨lw_p9, List.forall_mem_cons.mpr ⟨lw_p10, List.forall_mem_cons.mpr ⟨lw_p11, List.forall_mem_cons.mpr ⟨lw_p12, List.forall_mem_cons.mpr ⟨lw_p13, List.forall_mem_cons.mpr ⟨lw_p14, List.forall_mem_cons.mpr ⟨lw_p15, fun _ h => absurd h List.not_mem_nil⟩⟩⟩⟩⟩⟩⟩⟩⟩⟩⟩⟩⟩⟩⟩⟩
theorem lw_p16 : lw_okq (⟨"FoldedRows", "imageCount", "()I"⟩, 10) := ⟨⟨by decide +kernel, by decide +kernel⟩, List.mem_of_getElem? (i := 16) (by decide +kernel), List.mem_of_getElem? (i := 589) (by decide +kernel), List.mem_of_getElem? (i := 590) (by decide +kernel)⟩
theorem lw_p17 : lw_okq (⟨"FoldedRows", "caretRow", "()I"⟩, 10) := ⟨⟨by decide +kernel, by decide +kernel⟩, List.mem_of_getElem? (i := 16) (by decide +kernel), List.mem_of_getElem? (i := 674) (by decide +kernel), List.mem_of_getElem? (i := 675) (by decide +kernel)⟩
theorem lw_p18 : lw_okq (⟨"FoldedRows$History", "dropOldest", "()V"⟩, 3) := ⟨⟨by decide +kernel, by decide +kernel⟩, List.mem_of_getElem? (i := 78) (by decide +kernel), List.mem_of_getElem? (i := 708) (by decide +kernel), List.mem_of_getElem? (i := 709) (by decide +kernel)⟩
theorem lw_p19 : lw_okq (⟨"FoldedRows$Lines", "writeSign", "(III)V"⟩, 3) := ⟨⟨by decide +kernel, by decide +kernel⟩, List.mem_of_getElem? (i := 91) (by decide +kernel), List.mem_of_getElem? (i := 737) (by decide +kernel), List.mem_of_getElem? (i := 738) (by decide +kernel)⟩
theorem lw_p20 : lw_okq (⟨"FoldedRows", "layCaretLine", "()V"⟩, 10) := ⟨⟨by decide +kernel, by decide +kernel⟩, List.mem_of_getElem? (i := 16) (by decide +kernel), List.mem_of_getElem? (i := 741) (by decide +kernel), List.mem_of_getElem? (i := 742) (by decide +kernel)⟩
theorem lw_p21 : lw_okq (⟨"FoldedRows", "joinWithLineAhead", "()I"⟩, 10) := ⟨⟨by decide +kernel, by decide +kernel⟩, List.mem_of_getElem? (i := 16) (by decide +kernel), List.mem_of_getElem? (i := 750) (by decide +kernel), List.mem_of_getElem? (i := 751) (by decide +kernel)⟩
theorem lw_p22 : lw_okq (⟨"FoldedRows$Lines", "appendPart", "(III)V"⟩, 3) := ⟨⟨by decide +kernel, by decide +kernel⟩, List.mem_of_getElem? (i := 91) (by decide +kernel), List.mem_of_getElem? (i := 758) (by decide +kernel), List.mem_of_getElem? (i := 759) (by decide +kernel)⟩
theorem lw_p23 : lw_okq (⟨"FoldedRows$Lines", "copyLine", "(II)V"⟩, 3) := ⟨⟨by decide +kernel, by decide +kernel⟩, List.mem_of_getElem? (i := 91) (by decide +kernel), List.mem_of_getElem? (i := 763) (by decide +kernel), List.mem_of_getElem? (i := 764) (by decide +kernel)⟩
theorem lw_p24 : lw_okq (⟨"FoldedRows$History", "exchange", "(ILFoldedRows$Frame;)LFoldedRows$Frame;"⟩, 3) := ⟨⟨by decide +kernel, by decide +kernel⟩, List.mem_of_getElem? (i := 78) (by decide +kernel), List.mem_of_getElem? (i := 875) (by decide +kernel), List.mem_of_getElem? (i := 876) (by decide +kernel)⟩
def lw_privs_2 : List (MethodName × Nat) := [(⟨"FoldedRows", "imageCount", "()I"⟩, 10), (⟨"FoldedRows", "caretRow", "()I"⟩, 10), (⟨"FoldedRows$History", "dropOldest", "()V"⟩, 3), (⟨"FoldedRows$Lines", "writeSign", "(III)V"⟩, 3), (⟨"FoldedRows", "layCaretLine", "()V"⟩, 10), (⟨"FoldedRows", "joinWithLineAhead", "()I"⟩, 10), (⟨"FoldedRows$Lines", "appendPart", "(III)V"⟩, 3), (⟨"FoldedRows$Lines", "copyLine", "(II)V"⟩, 3), (⟨"FoldedRows$History", "exchange", "(ILFoldedRows$Frame;)LFoldedRows$Frame;"⟩, 3)]
theorem lw_r2 : ∀ q ∈ lw_privs_2, lw_okq q := List.forall_mem_cons.mpr ⟨lw_p16, List.forall_mem_cons.mpr ⟨lw_p17, List.forall_mem_cons.mpr ⟨lw_p18, List.forall_mem_cons.mpr ⟨lw_p19, List.forall_mem_cons.mpr ⟨lw_p20, List.forall_mem_cons.mpr ⟨lw_p21, List.forall_mem_cons.mpr ⟨lw_p22, List.forall_mem_cons.mpr ⟨lw_p23, List.forall_mem_cons.mpr ⟨lw_p24, fun _ h => absurd h List.not_mem_nil⟩⟩⟩⟩⟩⟩⟩⟩⟩
def lw_privs : List (MethodName × Nat) := lw_privs_1 ++ (lw_privs_2)
def lw_tbl : List Cond := k2_sels lw_privs ++ tables_1
theorem lw_privs_ok : ∀ q ∈ lw_privs, lw_okq q := by
  show ∀ q ∈ lw_privs_1 ++ (lw_privs_2), lw_okq q
  exact List.forall_mem_append.mpr ⟨lw_r1, lw_r2⟩
end
section
/-! A small machine of whole numbers: what a method does to a memory of whole numbers, as a function. -/
abbrev zV : Type := Int ⊕ Int ⊕ Int
abbrev zM : Type := (Int → Nat × Int) × (Int → Int → Int) × (Int → Int → Int) × Int × Nat
abbrev zL : Type := List (Option zV)
abbrev zR : Type := Option (Int × zM)
abbrev zC : Type := Nat × Instr × Nat × Int × List (Int × Nat)
abbrev zT : Type := List zC × List (Nat × List Bool) × Nat × Nat
def zi_w (x : Int) : Int := (x + 2147483648) % 4294967296 - 2147483648
def zi_w64 (x : Int) : Int := (x + 9223372036854775808) % 18446744073709551616 - 9223372036854775808
def zi_rem (x y : Int) : Int := zi_w (x - zi_w (zi_w (x.tdiv y) * y))
def zi_div (x y : Int) : Int := zi_w (x.tdiv y)
def zi_and (x y : Int) : Int := (Int32.ofInt x &&& Int32.ofInt y).toInt
def zi_xor (x y : Int) : Int := (Int32.ofInt x ^^^ Int32.ofInt y).toInt
def zi_shr (x y : Int) : Int := (Int32.ofInt x >>> (Int32.ofInt y &&& 31)).toInt
def zi_land (x y : Int) : Int := (Int64.ofInt x &&& Int64.ofInt y).toInt
def zi_lor (x y : Int) : Int := (Int64.ofInt x ||| Int64.ofInt y).toInt
def zi_lxor (x y : Int) : Int := (Int64.ofInt x ^^^ Int64.ofInt y).toInt
def zi_lshl (x y : Int) : Int := (Int64.ofInt x <<< ((Int32.ofInt y).toInt64 &&& 63)).toInt
def zi_i2b (x : Int) : Int := (Int32.ofInt x).toInt8.toInt32.toInt
def zi_i2s (x : Int) : Int := (Int32.ofInt x).toInt16.toInt32.toInt
def zi_i2c (x : Int) : Int := ((Int32.ofInt x).toUInt32 % 65536).toInt32.toInt
def zi_find : List zC → Nat → Option (Instr × Nat × Int × List (Int × Nat))
  | [], _ => none
  | c :: r, pc => bif Nat.beq c.1 pc then some c.2 else zi_find r pc
def zi_cut : List (Nat × List Bool) → Nat → Option (List Bool)
  | [], _ => none
  | c :: r, pc => bif Nat.beq c.1 pc then some c.2 else zi_cut r pc
def zi_mask : List Bool → zL → zL
  | [], _ => []
  | _, [] => []
  | b :: m, v :: l => (bif b then v else none) :: zi_mask m l
def zi_get : zL → Nat → Option zV
  | [], _ => none
  | v :: _, 0 => v
  | _ :: l, i + 1 => zi_get l i
def zi_set : zL → Nat → zV → Option zL
  | [], _, _ => none
  | _ :: l, 0, v => some (some v :: l)
  | some (.inr (.inl x)) :: l, i + 1, v => match i with
    | 0 => none
    | i + 1 => (zi_set l (i + 1) v).map fun l' => some (.inr (.inl x)) :: l'
  | w :: l, i + 1, v => (zi_set l i v).map fun l' => w :: l'
def zi_ro (x : Int) : Option Nat := if x ≤ 0 then none else some (x.toNat - 1)
def zi_c1 : zV → Bool
  | .inr (.inl _) => false
  | _ => true
def zi_cats : List zV → Nat
  | [] => 0
  | .inr (.inl _) :: r => 2 + zi_cats r
  | _ :: r => 1 + zi_cats r
def zi_take : Nat → List zV → List zV → Option (List zV × List zV)
  | 0, acc, st => some (acc, st)
  | _ + 1, _, [] => none
  | n + 1, acc, v :: st => zi_take n (v :: acc) st
def zi_mkv (t : Nat) (x : Int) : zV := match t with
  | 3 => .inr (.inr x)
  | 4 => .inr (.inl x)
  | _ => .inl x
def zi_push (t : Nat) (x : Int) (r : List zV) : List zV := match t with
  | 0 => r
  | 3 => .inr (.inr x) :: r
  | 4 => .inr (.inl x) :: r
  | _ => .inl x :: r
def zi_up (M : Int → Int → Int) (a k v : Int) : Int → Int → Int := fun a' k' => if a' = a ∧ k' = k then v else M a' k'
def zi_wr (σ : zM) (a k v : Int) : zM := (σ.1, zi_up σ.2.1 a k v, σ.2.2)
def zi_wq (σ : zM) (a k v : Int) : zM := (σ.1, σ.2.1, zi_up σ.2.2.1 a k v, σ.2.2.2)
/-- what is at a place: a number, a reference -/
def zi_rd (σ : zM) (t : Nat) (a k : Int) : Int := match t with
  | 3 => σ.2.2.1 a k
  | _ => σ.2.1 a k
def zi_new (σ : zM) (kd : Nat) (n : Int) (sl : Nat) : zM := (fun x => if x = σ.2.2.2.1 then (kd, n) else σ.1 x, fun x k => if x = σ.2.2.2.1 then 0 else σ.2.1 x k, fun x k => if x = σ.2.2.2.1 then 0 else σ.2.2.1 x k, σ.2.2.2.1 + 1, σ.2.2.2.2 + sl)
def zi_if (c : Jvm.ClassFile.Cond) (x y : Int) (A B : zR) : zR := match c with
  | .eq => if x = y then A else B
  | .ne => if x = y then B else A
  | .lt => if x < y then A else B
  | .ge => if x < y then B else A
  | .gt => if y < x then A else B
  | .le => if y < x then B else A
def zi_sw : List (Int × Nat) → Nat → Int → (Nat → zR) → zR
  | [], d, _, k => k d
  | c :: r, d, x, k => if x = c.1 then k c.2 else zi_sw r d x k
/-- the kinds of the fields of each class of objects: 1 int, 2 boolean, 3 a reference -/
def zi_fts : List (List Nat) := [[1, 3, 3, 3], [3, 3, 1, 1], [3, 1, 1], [3, 3, 2], [1, 1, 1, 3, 3, 3, 3, 3, 3, 3, 3], [1, 3, 3], [3, 3], [1, 1, 1, 1], [2, 1, 1, 3], [3, 3, 1, 1, 1, 1], [3, 3, 3, 3, 3, 3, 3, 3, 1, 1]]
def zi_ft (c k : Nat) : Nat := (zi_fts.getD c []).getD k 0
/-- one instruction; what follows is 'nx', a call is 'G' -/
def zi_ex (t : zT) (G : Nat → List zV → zM → zR) (nx : Nat → zL → List zV → zM → zR) (pc : Nat) (ls : zL) (st : List zV) (σ : zM) : zR :=
  match zi_find t.1 pc with
  | none => none
  | some (ins, a, b, sw) => match ins with
    | .iconst _ => nx (pc + 1) ls (.inl b :: st) σ
    | .bipush _ => nx (pc + 2) ls (.inl b :: st) σ
    | .sipush _ => nx (pc + 3) ls (.inl b :: st) σ
    | .ldc_w _ => nx (pc + 3) ls (.inl b :: st) σ
    | .lconst _ => nx (pc + 1) ls (.inr (.inl b) :: st) σ
    | .ldc2_w _ => nx (pc + 3) ls (.inr (.inl b) :: st) σ
    | .ldc _ => nx (pc + 2) ls (.inl b :: st) σ
    | .aconst_null => nx (pc + 1) ls (.inr (.inr 0) :: st) σ
    | .iload_n _ => match zi_get ls a with
      | some (.inl x) => nx (pc + 1) ls (.inl x :: st) σ
      | _ => none
    | .iload _ => match zi_get ls a with
      | some (.inl x) => nx (pc + 2) ls (.inl x :: st) σ
      | _ => none
    | .lload_n _ => match zi_get ls a with
      | some (.inr (.inl x)) => nx (pc + 1) ls (.inr (.inl x) :: st) σ
      | _ => none
    | .lload _ => match zi_get ls a with
      | some (.inr (.inl x)) => nx (pc + 2) ls (.inr (.inl x) :: st) σ
      | _ => none
    | .aload_n _ => match zi_get ls a with
      | some (.inr (.inr x)) => nx (pc + 1) ls (.inr (.inr x) :: st) σ
      | _ => none
    | .aload _ => match zi_get ls a with
      | some (.inr (.inr x)) => nx (pc + 2) ls (.inr (.inr x) :: st) σ
      | _ => none
    | .istore_n _ => match st with
      | .inl x :: r => match zi_set ls a (.inl x) with
        | some ls' => nx (pc + 1) ls' r σ
        | none => none
      | _ => none
    | .istore _ => match st with
      | .inl x :: r => match zi_set ls a (.inl x) with
        | some ls' => nx (pc + 2) ls' r σ
        | none => none
      | _ => none
    | .astore_n _ => match st with
      | .inr (.inr x) :: r => match zi_set ls a (.inr (.inr x)) with
        | some ls' => nx (pc + 1) ls' r σ
        | none => none
      | _ => none
    | .astore _ => match st with
      | .inr (.inr x) :: r => match zi_set ls a (.inr (.inr x)) with
        | some ls' => nx (pc + 2) ls' r σ
        | none => none
      | _ => none
    | .lstore_n _ => match st with
      | .inr (.inl x) :: r => match zi_set ls (a + 1) (.inl 0) with
        | some l1 => match zi_set l1 a (.inr (.inl x)) with
          | some l2 => nx (pc + 1) (zi_mask ((List.range l2.length).map fun i => !(Nat.beq i (a + 1))) l2) r σ
          | none => none
        | none => none
      | _ => none
    | .lstore _ => match st with
      | .inr (.inl x) :: r => match zi_set ls (a + 1) (.inl 0) with
        | some l1 => match zi_set l1 a (.inr (.inl x)) with
          | some l2 => nx (pc + 2) (zi_mask ((List.range l2.length).map fun i => !(Nat.beq i (a + 1))) l2) r σ
          | none => none
        | none => none
      | _ => none
    | .iinc _ _ => match zi_get ls a with
      | some (.inl x) => match zi_set ls a (.inl (zi_w (x + b))) with
        | some ls' => nx (pc + 3) ls' st σ
        | none => none
      | _ => none
    | .iadd => match st with
      | .inl y :: .inl x :: r => nx (pc + 1) ls (.inl (zi_w (x + y)) :: r) σ
      | _ => none
    | .isub => match st with
      | .inl y :: .inl x :: r => nx (pc + 1) ls (.inl (zi_w (x - y)) :: r) σ
      | _ => none
    | .imul => match st with
      | .inl y :: .inl x :: r => nx (pc + 1) ls (.inl (zi_w (x * y)) :: r) σ
      | _ => none
    | .idiv => match st with
      | .inl y :: .inl x :: r => if y = 0 then none else nx (pc + 1) ls (.inl (zi_div x y) :: r) σ
      | _ => none
    | .irem => match st with
      | .inl y :: .inl x :: r => if y = 0 then none else nx (pc + 1) ls (.inl (zi_rem x y) :: r) σ
      | _ => none
    | .iand => match st with
      | .inl y :: .inl x :: r => nx (pc + 1) ls (.inl (zi_and x y) :: r) σ
      | _ => none
    | .ixor => match st with
      | .inl y :: .inl x :: r => nx (pc + 1) ls (.inl (zi_xor x y) :: r) σ
      | _ => none
    | .ishr => match st with
      | .inl y :: .inl x :: r => nx (pc + 1) ls (.inl (zi_shr x y) :: r) σ
      | _ => none
    | .ladd => match st with
      | .inr (.inl y) :: .inr (.inl x) :: r => nx (pc + 1) ls (.inr (.inl (zi_w64 (x + y))) :: r) σ
      | _ => none
    | .lsub => match st with
      | .inr (.inl y) :: .inr (.inl x) :: r => nx (pc + 1) ls (.inr (.inl (zi_w64 (x - y))) :: r) σ
      | _ => none
    | .land => match st with
      | .inr (.inl y) :: .inr (.inl x) :: r => nx (pc + 1) ls (.inr (.inl (zi_land x y)) :: r) σ
      | _ => none
    | .lor => match st with
      | .inr (.inl y) :: .inr (.inl x) :: r => nx (pc + 1) ls (.inr (.inl (zi_lor x y)) :: r) σ
      | _ => none
    | .lxor => match st with
      | .inr (.inl y) :: .inr (.inl x) :: r => nx (pc + 1) ls (.inr (.inl (zi_lxor x y)) :: r) σ
      | _ => none
    | .lshl => match st with
      | .inl y :: .inr (.inl x) :: r => nx (pc + 1) ls (.inr (.inl (zi_lshl x y)) :: r) σ
      | _ => none
    | .lcmp => match st with
      | .inr (.inl y) :: .inr (.inl x) :: r => nx (pc + 1) ls (.inl (if y < x then 1 else if x = y then 0 else -1) :: r) σ
      | _ => none
    | .i2l => match st with
      | .inl x :: r => nx (pc + 1) ls (.inr (.inl x) :: r) σ
      | _ => none
    | .l2i => match st with
      | .inr (.inl x) :: r => nx (pc + 1) ls (.inl (zi_w x) :: r) σ
      | _ => none
    | .i2b => match st with
      | .inl x :: r => nx (pc + 1) ls (.inl (zi_i2b x) :: r) σ
      | _ => none
    | .i2c => match st with
      | .inl x :: r => nx (pc + 1) ls (.inl (zi_i2c x) :: r) σ
      | _ => none
    | .i2s => match st with
      | .inl x :: r => nx (pc + 1) ls (.inl (zi_i2s x) :: r) σ
      | _ => none
    | .dup => match st with
      | v :: r => bif zi_c1 v then nx (pc + 1) ls (v :: v :: r) σ else none
      | _ => none
    | .dup2 => match st with
      | v :: w :: r => bif zi_c1 v && zi_c1 w then nx (pc + 1) ls (v :: w :: v :: w :: r) σ else none
      | _ => none
    | .pop => match st with
      | v :: r => bif zi_c1 v then nx (pc + 1) ls r σ else none
      | _ => none
    | .ifCond c _ => match st with
      | .inl x :: r => zi_if c x 0 (nx a ls r σ) (nx (pc + 3) ls r σ)
      | _ => none
    | .if_icmp c _ => match st with
      | .inl y :: .inl x :: r => zi_if c x y (nx a ls r σ) (nx (pc + 3) ls r σ)
      | _ => none
    | .ifnull _ => match st with
      | .inr (.inr x) :: r => if x = 0 then nx a ls r σ else nx (pc + 3) ls r σ
      | _ => none
    | .ifnonnull _ => match st with
      | .inr (.inr x) :: r => if x = 0 then nx (pc + 3) ls r σ else nx a ls r σ
      | _ => none
    | .goto _ => nx a ls st σ
    | .tableswitch _ _ _ _ => match st with
      | .inl x :: r => zi_sw sw a x fun pc' => nx pc' ls r σ
      | _ => none
    | .lookupswitch _ _ => match st with
      | .inl x :: r => zi_sw sw a x fun pc' => nx pc' ls r σ
      | _ => none
    | .getfield _ => match st with
      | .inr (.inr p) :: r => if (σ.1 p).1 = a then nx (pc + 3) ls (zi_mkv (zi_ft a b.toNat) (zi_rd σ (zi_ft a b.toNat) p b) :: r) σ else none
      | _ => none
    | .putfield _ => match zi_ft a b.toNat with
      | 1 => match st with
        | .inl v :: .inr (.inr p) :: r => if (σ.1 p).1 = a then nx (pc + 3) ls r (zi_wr σ p b v) else none
        | _ => none
      | 2 => match st with
        | .inl v :: .inr (.inr p) :: r => if (σ.1 p).1 = a ∧ (v = 0 ∨ v = 1) then nx (pc + 3) ls r (zi_wr σ p b v) else none
        | _ => none
      | 3 => match st with
        | .inr (.inr v) :: .inr (.inr p) :: r => if (σ.1 p).1 = a then nx (pc + 3) ls r (zi_wq σ p b v) else none
        | _ => none
      | _ => none
    | .iaload => match st with
      | .inl j :: .inr (.inr p) :: r => if (σ.1 p).1 = a ∧ 0 ≤ j ∧ j < (σ.1 p).2 then nx (pc + 1) ls (.inl (σ.2.1 p j) :: r) σ else none
      | _ => none
    | .iastore => match st with
      | .inl v :: .inl j :: .inr (.inr p) :: r => if (σ.1 p).1 = 12 ∧ 0 ≤ j ∧ j < (σ.1 p).2 then nx (pc + 1) ls r (zi_wr σ p j v) else none
      | _ => none
    | .baload => match st with
      | .inl j :: .inr (.inr p) :: r => if (σ.1 p).1 = 13 ∧ 0 ≤ j ∧ j < (σ.1 p).2 then nx (pc + 1) ls (.inl (σ.2.1 p j) :: r) σ else none
      | _ => none
    | .bastore => match st with
      | .inl v :: .inl j :: .inr (.inr p) :: r => if ((σ.1 p).1 = 13 ∧ 0 ≤ j ∧ j < (σ.1 p).2) ∧ (v = 0 ∨ v = 1) then nx (pc + 1) ls r (zi_wr σ p j v) else none
      | _ => none
    | .laload => match st with
      | .inl j :: .inr (.inr p) :: r => if (σ.1 p).1 = 19 ∧ 0 ≤ j ∧ j < (σ.1 p).2 then nx (pc + 1) ls (.inr (.inl (σ.2.1 p j)) :: r) σ else none
      | _ => none
    | .lastore => match st with
      | .inr (.inl v) :: .inl j :: .inr (.inr p) :: r => if (σ.1 p).1 = 19 ∧ 0 ≤ j ∧ j < (σ.1 p).2 then nx (pc + 1) ls r (zi_wr σ p j v) else none
      | _ => none
    | .aaload => match st with
      | .inl j :: .inr (.inr p) :: r => if (σ.1 p).1 = a ∧ 0 ≤ j ∧ j < (σ.1 p).2 then nx (pc + 1) ls (.inr (.inr (σ.2.2.1 p j)) :: r) σ else none
      | _ => none
    | .aastore => match st with
      | .inr (.inr v) :: .inl j :: .inr (.inr p) :: r => if ((σ.1 p).1 = a ∧ 0 ≤ j ∧ j < (σ.1 p).2) ∧ ((σ.1 v).1 : Int) = b then nx (pc + 1) ls r (zi_wq σ p j v) else none
      | _ => none
    | .arraylength => match st with
      | .inr (.inr p) :: r => if (σ.1 p).1 = a then nx (pc + 1) ls (.inl (σ.1 p).2 :: r) σ else none
      | _ => none
    | .newarray _ => match st with
      | .inl n :: r => if 0 ≤ n ∧ n ≤ 100000 then nx (pc + 2) ls (.inr (.inr σ.2.2.2.1) :: r) (zi_new σ a n n.toNat) else none
      | _ => none
    | .anewarray _ => match st with
      | .inl n :: r => if 0 ≤ n ∧ n ≤ 100000 then nx (pc + 3) ls (.inr (.inr σ.2.2.2.1) :: r) (zi_new σ a n n.toNat) else none
      | _ => none
    | .new _ => nx (pc + 3) ls (.inr (.inr σ.2.2.2.1) :: st) (zi_new σ a 0 b.toNat)
    | .invokestatic _ => match sw with
      | (n, rk) :: _ => match zi_take n.toNat [] st with
        | some (args, r) => bif Nat.ble (zi_cats r) 8 then (G a args σ).bind fun q => nx (pc + 3) ls (zi_push rk q.1 r) q.2 else none
        | none => none
      | _ => none
    | .invokevirtual _ => match sw with
      | (n, rk) :: _ => match zi_take n.toNat [] st with
        | some (.inr (.inr p) :: args, r) => bif Nat.ble (zi_cats r) 8 then (if ((σ.1 p).1 : Int) = b then (G a (.inr (.inr p) :: args) σ).bind fun q => nx (pc + 3) ls (zi_push rk q.1 r) q.2 else none) else none
        | _ => none
      | _ => none
    | .invokespecial _ => match sw with
      | (n, rk) :: _ => match zi_take n.toNat [] st with
        | some (.inr (.inr p) :: args, r) => bif Nat.ble (zi_cats r) 8 then (if ((σ.1 p).1 : Int) = b then (G a (.inr (.inr p) :: args) σ).bind fun q => nx (pc + 3) ls (zi_push rk q.1 r) q.2 else none) else none
        | _ => none
      | _ => none
    | .ireturn => match st with
      | [.inl x] => match t.2.2.2 with
        | 1 => some (x, σ)
        | 2 => if x = 0 ∨ x = 1 then some (x, σ) else none
        | _ => none
      | _ => none
    | .areturn => match st with
      | [.inr (.inr x)] => match t.2.2.2 with
        | 3 => some (x, σ)
        | _ => none
      | _ => none
    | .return_ => match st with
      | [] => match t.2.2.2 with
        | 0 => some (0, σ)
        | _ => none
      | _ => none
    | _ => none
/-- a stretch of code up to a cut -/
def zi_fr (t : zT) (G : Nat → List zV → zM → zR) (K : Nat → zL → List zV → zM → zR) : Nat → Nat → zL → List zV → zM → zR
  | 0 => fun _ _ _ _ => none
  | n + 1 => fun pc ls st σ => zi_ex t G (fun pc' ls' st' σ' => match zi_cut t.2.1 pc' with
    | some live => K pc' (zi_mask live ls') st' σ'
    | none => zi_fr t G K n pc' ls' st' σ') pc ls st σ
def zi_run (t : zT) (G : Nat → List zV → zM → zR) : Nat → Nat → zL → List zV → zM → zR
  | 0 => fun _ _ _ _ => none
  | n + 1 => fun pc ls st σ => zi_fr t G (zi_run t G n) 600 pc ls st σ
/-- the locals at the entry -/
def zi_args : List zV → zL
  | [] => []
  | .inr (.inl x) :: r => some (.inr (.inl x)) :: none :: zi_args r
  | v :: r => some v :: zi_args r
def zi_loc (vs : List zV) (n : Nat) : zL := zi_args vs ++ List.replicate (n - (zi_args vs).length) none
def zi_cpy (M : Int → Int → Int) (p q s d n : Int) : Int → Int → Int := fun a k => if a = q ∧ d ≤ k ∧ k < d + n then M p (s + (k - d)) else M a k
/-- what is not bytecode of the class: Object(), Math, arraycopy -/
def zi_nat (j : Nat) (vs : List zV) (σ : zM) : zR := match j, vs with
  | 1000, [.inr (.inr _)] => some (0, σ)
  | 1001, [.inl x, .inl y] => some (if x < y then y else x, σ)
  | 1002, [.inl x, .inl y] => some (if y < x then y else x, σ)
  | 1003, [.inr (.inl x), .inr (.inl y)] => some (if y < x then x else y, σ)
  | 1004, [.inr (.inl x), .inr (.inl y)] => some (if y < x then y else x, σ)
  | 1005, [.inr (.inr p), .inl s, .inr (.inr q), .inl d, .inl n] => if ((σ.1 p).1 = 12 ∧ (σ.1 q).1 = 12) ∧ 0 ≤ s ∧ 0 ≤ d ∧ 0 ≤ n ∧ s + n ≤ (σ.1 p).2 ∧ d + n ≤ (σ.1 q).2 then some (0, (σ.1, zi_cpy σ.2.1 p q s d n, σ.2.2)) else none
  | _, _ => none
def zi_G (tab : Nat → zT) : Nat → Nat → List zV → zM → zR
  | 0 => fun _ _ _ => none
  | d + 1 => fun j vs σ => bif Nat.ble 1000 j then zi_nat j vs σ else bif Nat.ble (zi_args vs).length (tab j).2.2.1 then zi_run (tab j) (zi_G tab d) 20000 0 (zi_loc vs (tab j).2.2.1) [] σ else none
end
section
/-! whole numbers and the machine's -/
def zi_v : zV → Value
  | .inl x => .int (Int32.ofInt x)
  | .inr (.inl x) => .long (Int64.ofInt x)
  | .inr (.inr x) => va_rf (zi_ro x)
def zi_ir (x : Int) : Prop := -2147483648 ≤ x ∧ x < 2147483648
def zi_in : zV → Prop
  | .inl x => zi_ir x
  | .inr (.inl x) => -9223372036854775808 ≤ x ∧ x < 9223372036854775808
  | .inr (.inr x) => 0 ≤ x
theorem zi_w_ir (x : Int) : zi_ir (zi_w x) := by unfold zi_ir zi_w; omega
theorem zi_w_id {x : Int} (h : zi_ir x) : zi_w x = x := by unfold zi_ir at h; unfold zi_w; omega
theorem zi_bm (x : Int) : x.bmod (2 ^ 32) = zi_w x := by
  unfold zi_w Int.bmod
  simp only [Nat.reducePow]
  split <;> omega
theorem zi_bm64 (x : Int) : x.bmod (2 ^ 64) = zi_w64 x := by
  unfold zi_w64 Int.bmod
  simp only [Nat.reducePow]
  split <;> omega
theorem zi_oi (x : Int) : (Int32.ofInt x).toInt = zi_w x := by
  rw [Int32.toInt_ofInt]
  exact zi_bm x
theorem zi_oi' {x : Int} (h : zi_ir x) : (Int32.ofInt x).toInt = x := by rw [zi_oi, zi_w_id h]
theorem zi_ol (x : Int) : (Int64.ofInt x).toInt = zi_w64 x := by
  rw [Int64.toInt_ofInt]
  exact zi_bm64 x
theorem zi_ol' {x : Int} (h : zi_in (.inr (.inl x))) : (Int64.ofInt x).toInt = x := by
  rw [zi_ol]
  have h1 : -9223372036854775808 ≤ x ∧ x < 9223372036854775808 := h
  unfold zi_w64; omega
theorem zi_w64_in (x : Int) : zi_in (.inr (.inl (zi_w64 x))) := by
  show -9223372036854775808 ≤ zi_w64 x ∧ zi_w64 x < 9223372036854775808
  unfold zi_w64; omega
theorem zi_to (v : Int32) : Int32.ofInt v.toInt = v := Int32.ofInt_toInt v
theorem zi_tl (v : Int64) : Int64.ofInt v.toInt = v := Int64.ofInt_toInt v
theorem zi_to_ir (v : Int32) : zi_ir v.toInt := by
  have h := zi_oi v.toInt
  rw [zi_to] at h
  rw [h]; exact zi_w_ir _
theorem zi_tl_in (v : Int64) : zi_in (.inr (.inl v.toInt)) := by
  have h := zi_ol v.toInt
  rw [zi_tl] at h
  rw [h]; exact zi_w64_in _
theorem zi_eq32 {a : Int32} {x : Int} (h : a.toInt = x) : a = Int32.ofInt x := by rw [← h, zi_to]
theorem zi_eq64 {a : Int64} {x : Int} (h : a.toInt = x) : a = Int64.ofInt x := by rw [← h, zi_tl]
theorem zi_eqw {a : Int32} {x : Int} (h : a.toInt = zi_w x) : a = Int32.ofInt x := by
  apply Int32.toInt_inj.mp
  rw [h, zi_oi]
theorem zi_ofw (x : Int) : Int32.ofInt (zi_w x) = Int32.ofInt x := by
  apply Int32.toInt_inj.mp
  rw [zi_oi, zi_oi, zi_w_id (zi_w_ir x)]
theorem zi_add {x y : Int} (hx : zi_ir x) (hy : zi_ir y) : Int32.ofInt x + Int32.ofInt y = Int32.ofInt (zi_w (x + y)) := by
  apply zi_eq32
  rw [Int32.toInt_add, zi_oi' hx, zi_oi' hy, zi_bm]
theorem zi_sub {x y : Int} (hx : zi_ir x) (hy : zi_ir y) : Int32.ofInt x - Int32.ofInt y = Int32.ofInt (zi_w (x - y)) := by
  apply zi_eq32
  rw [Int32.toInt_sub, zi_oi' hx, zi_oi' hy, zi_bm]
theorem zi_mul {x y : Int} (hx : zi_ir x) (hy : zi_ir y) : Int32.ofInt x * Int32.ofInt y = Int32.ofInt (zi_w (x * y)) := by
  apply zi_eq32
  rw [Int32.toInt_mul, zi_oi' hx, zi_oi' hy, zi_bm]
theorem zi_divE {x y : Int} (hx : zi_ir x) (hy : zi_ir y) : Int32.ofInt x / Int32.ofInt y = Int32.ofInt (zi_div x y) := by
  apply zi_eq32
  rw [Int32.toInt_div, zi_oi' hx, zi_oi' hy, zi_bm]
  rfl
theorem zi_remE {x y : Int} (hx : zi_ir x) (hy : zi_ir y) : Int32.ofInt x - Int32.ofInt x / Int32.ofInt y * Int32.ofInt y = Int32.ofInt (zi_rem x y) := by
  rw [zi_divE hx hy, zi_mul (show zi_ir (zi_div x y) from zi_w_ir _) hy, zi_sub hx (zi_w_ir _)]
  rfl
theorem zi_lt {x y : Int} (hx : zi_ir x) (hy : zi_ir y) : Int32.ofInt x < Int32.ofInt y ↔ x < y := by
  rw [Int32.lt_iff_toInt_lt, zi_oi' hx, zi_oi' hy]
theorem zi_le {x y : Int} (hx : zi_ir x) (hy : zi_ir y) : Int32.ofInt x ≤ Int32.ofInt y ↔ x ≤ y := by
  rw [Int32.le_iff_toInt_le, zi_oi' hx, zi_oi' hy]
theorem zi_eq {x y : Int} (hx : zi_ir x) (hy : zi_ir y) : Int32.ofInt x = Int32.ofInt y ↔ x = y := by
  rw [← Int32.toInt_inj, zi_oi' hx, zi_oi' hy]
theorem zi_z : (0 : Int32) = Int32.ofInt 0 := by decide
theorem zi_ir0 : zi_ir 0 := by unfold zi_ir; omega
theorem zi_ladd {x y : Int} (hx : zi_in (.inr (.inl x))) (hy : zi_in (.inr (.inl y))) : Int64.ofInt x + Int64.ofInt y = Int64.ofInt (zi_w64 (x + y)) := by
  apply zi_eq64
  rw [Int64.toInt_add, zi_ol' hx, zi_ol' hy, zi_bm64]
theorem zi_lsub {x y : Int} (hx : zi_in (.inr (.inl x))) (hy : zi_in (.inr (.inl y))) : Int64.ofInt x - Int64.ofInt y = Int64.ofInt (zi_w64 (x - y)) := by
  apply zi_eq64
  rw [Int64.toInt_sub, zi_ol' hx, zi_ol' hy, zi_bm64]
theorem zi_llt {x y : Int} (hx : zi_in (.inr (.inl x))) (hy : zi_in (.inr (.inl y))) : Int64.ofInt x < Int64.ofInt y ↔ x < y := by
  rw [Int64.lt_iff_toInt_lt, zi_ol' hx, zi_ol' hy]
theorem zi_leq {x y : Int} (hx : zi_in (.inr (.inl x))) (hy : zi_in (.inr (.inl y))) : Int64.ofInt x = Int64.ofInt y ↔ x = y := by
  rw [← Int64.toInt_inj, zi_ol' hx, zi_ol' hy]
theorem zi_cmp {x y : Int} (hx : zi_in (.inr (.inl x))) (hy : zi_in (.inr (.inl y))) : lg_cmp (Int64.ofInt x) (Int64.ofInt y) = Int32.ofInt (if y < x then 1 else if x = y then 0 else -1) := by
  unfold lg_cmp
  by_cases h1 : y < x
  · rw [if_pos h1, if_pos ((zi_llt hy hx).mpr h1)]; decide
  · rw [if_neg h1, if_neg (fun q => h1 ((zi_llt hy hx).mp q))]
    by_cases h2 : x = y
    · rw [if_pos h2, if_pos ((zi_leq hx hy).mpr h2)]; decide
    · rw [if_neg h2, if_neg (fun q => h2 ((zi_leq hx hy).mp q))]; decide
theorem zi_i2l {x : Int} (hx : zi_ir x) : (Int32.ofInt x).toInt64 = Int64.ofInt x := by
  apply zi_eq64
  rw [Int32.toInt_toInt64, zi_oi' hx]
theorem zi_i2l_in {x : Int} (hx : zi_ir x) : zi_in (.inr (.inl x)) := by
  show -9223372036854775808 ≤ x ∧ x < 9223372036854775808
  unfold zi_ir at hx; omega
theorem zi_l2i {x : Int} (hx : zi_in (.inr (.inl x))) : (Int64.ofInt x).toInt32 = Int32.ofInt (zi_w x) := by
  apply zi_eq32
  rw [Int64.toInt_toInt32, zi_ol' hx, zi_bm]
theorem zi_andE (x y : Int) : Int32.ofInt x &&& Int32.ofInt y = Int32.ofInt (zi_and x y) := zi_eq32 rfl
theorem zi_and_ir (x y : Int) : zi_ir (zi_and x y) := zi_to_ir _
theorem zi_xorE (x y : Int) : Int32.ofInt x ^^^ Int32.ofInt y = Int32.ofInt (zi_xor x y) := zi_eq32 rfl
theorem zi_xor_ir (x y : Int) : zi_ir (zi_xor x y) := zi_to_ir _
theorem zi_shrE (x y : Int) : Int32.ofInt x >>> (Int32.ofInt y &&& 31) = Int32.ofInt (zi_shr x y) := zi_eq32 rfl
theorem zi_shr_ir (x y : Int) : zi_ir (zi_shr x y) := zi_to_ir _
theorem zi_landE (x y : Int) : Int64.ofInt x &&& Int64.ofInt y = Int64.ofInt (zi_land x y) := zi_eq64 rfl
theorem zi_lorE (x y : Int) : Int64.ofInt x ||| Int64.ofInt y = Int64.ofInt (zi_lor x y) := zi_eq64 rfl
theorem zi_lxorE (x y : Int) : Int64.ofInt x ^^^ Int64.ofInt y = Int64.ofInt (zi_lxor x y) := zi_eq64 rfl
theorem zi_lshlE (x y : Int) : Int64.ofInt x <<< ((Int32.ofInt y).toInt64 &&& 63) = Int64.ofInt (zi_lshl x y) := zi_eq64 rfl
theorem zi_i2bE (x : Int) : (Int32.ofInt x).toInt8.toInt32 = Int32.ofInt (zi_i2b x) := zi_eq32 rfl
theorem zi_i2sE (x : Int) : (Int32.ofInt x).toInt16.toInt32 = Int32.ofInt (zi_i2s x) := zi_eq32 rfl
theorem zi_i2cE (x : Int) : ((Int32.ofInt x).toUInt32 % 65536).toInt32 = Int32.ofInt (zi_i2c x) := zi_eq32 rfl
theorem zi_max {x y : Int} (hx : zi_ir x) (hy : zi_ir y) : (if Int32.ofInt x < Int32.ofInt y then Int32.ofInt y else Int32.ofInt x) = Int32.ofInt (if x < y then y else x) := by
  by_cases h : x < y
  · rw [if_pos h, if_pos ((zi_lt hx hy).mpr h)]
  · rw [if_neg h, if_neg (fun q => h ((zi_lt hx hy).mp q))]
theorem zi_min {x y : Int} (hx : zi_ir x) (hy : zi_ir y) : (if Int32.ofInt y < Int32.ofInt x then Int32.ofInt y else Int32.ofInt x) = Int32.ofInt (if y < x then y else x) := by
  by_cases h : y < x
  · rw [if_pos h, if_pos ((zi_lt hy hx).mpr h)]
  · rw [if_neg h, if_neg (fun q => h ((zi_lt hy hx).mp q))]
theorem zi_lmax {x y : Int} (hx : zi_in (.inr (.inl x))) (hy : zi_in (.inr (.inl y))) : (if Int64.ofInt y < Int64.ofInt x then Int64.ofInt x else Int64.ofInt y) = Int64.ofInt (if y < x then x else y) := by
  by_cases h : y < x
  · rw [if_pos h, if_pos ((zi_llt hy hx).mpr h)]
  · rw [if_neg h, if_neg (fun q => h ((zi_llt hy hx).mp q))]
theorem zi_lmin {x y : Int} (hx : zi_in (.inr (.inl x))) (hy : zi_in (.inr (.inl y))) : (if Int64.ofInt y < Int64.ofInt x then Int64.ofInt y else Int64.ofInt x) = Int64.ofInt (if y < x then y else x) := by
  by_cases h : y < x
  · rw [if_pos h, if_pos ((zi_llt hy hx).mpr h)]
  · rw [if_neg h, if_neg (fun q => h ((zi_llt hy hx).mp q))]
/-- an index -/
theorem zi_idx {j n : Int} (hj : zi_ir j) (h0 : 0 ≤ j) (hn : j < n) : vp_in (Int32.ofInt j) n.toNat ∧ ((Int32.ofInt j).toNatClampNeg : Int) = j := by
  have h1 : (Int32.ofInt j).toNatClampNeg = j.toNat := by
    show (Int32.ofInt j).toInt.toNat = _
    rw [zi_oi' hj]
  refine ⟨?_, by rw [h1]; omega⟩
  rintro (h | h)
  · rw [zi_z, zi_lt hj zi_ir0] at h; omega
  · rw [h1] at h; omega
end
section
/-! names: classes, fields, methods (out of the printed names) -/
def RX0 : String := "FoldedRows$Folds"
def TX0 : u_T := fun k => match k with
  | 0 => ("FoldedRows$Folds", "count", "I", false)
  | 1 => ("FoldedRows$Folds", "firsts", "[I", true)
  | 2 => ("FoldedRows$Folds", "lasts", "[I", true)
  | _ => ("FoldedRows$Folds", "shuts", "[I", true)
def tyX0 : Nat → FieldType := fun k => match k with
  | 0 => .int
  | 1 => .array .int
  | 2 => .array .int
  | _ => .array .int
theorem nmX0 : ∀ a, a < 4 → ∀ b, b < 4 → a ≠ b → (TX0 a).2.1 ≠ (TX0 b).2.1 := by decide +kernel
theorem tyX0_ok : ∀ k, k < 4 → parseFieldDescriptor (TX0 k).2.2.1 = some (tyX0 k) := by decide +kernel
abbrev cX0_init : ByteArray := prog_2_method_1_code
def yX0_init : MethodName := ⟨RX0, "<init>", "()V"⟩
abbrev cX0_has : ByteArray := prog_2_method_2_code
def yX0_has : MethodName := ⟨RX0, "has", "(I)Z"⟩
abbrev cX0_firstOf : ByteArray := prog_2_method_3_code
def yX0_firstOf : MethodName := ⟨RX0, "firstOf", "(I)I"⟩
abbrev cX0_lastOf : ByteArray := prog_2_method_4_code
def yX0_lastOf : MethodName := ⟨RX0, "lastOf", "(I)I"⟩
abbrev cX0_isShut : ByteArray := prog_2_method_5_code
def yX0_isShut : MethodName := ⟨RX0, "isShut", "(I)Z"⟩
abbrev cX0_setShut : ByteArray := prog_2_method_6_code
def yX0_setShut : MethodName := ⟨RX0, "setShut", "(II)V"⟩
abbrev cX0_shutCount : ByteArray := prog_2_method_7_code
def yX0_shutCount : MethodName := ⟨RX0, "shutCount", "()I"⟩
abbrev cX0_depthOf : ByteArray := prog_2_method_8_code
def yX0_depthOf : MethodName := ⟨RX0, "depthOf", "(I)I"⟩
abbrev cX0_hides : ByteArray := prog_2_method_9_code
def yX0_hides : MethodName := ⟨RX0, "hides", "(I)Z"⟩
abbrev cX0_shutsBehind : ByteArray := prog_2_method_10_code
def yX0_shutsBehind : MethodName := ⟨RX0, "shutsBehind", "(I)Z"⟩
abbrev cX0_clash : ByteArray := prog_2_method_11_code
def yX0_clash : MethodName := ⟨RX0, "clash", "(II)Z"⟩
abbrev cX0_add : ByteArray := prog_2_method_12_code
def yX0_add : MethodName := ⟨RX0, "add", "(II)I"⟩
abbrev cX0_clear : ByteArray := prog_2_method_14_code
def yX0_clear : MethodName := ⟨RX0, "clear", "()V"⟩
abbrev cX0_followSplit : ByteArray := prog_2_method_15_code
def yX0_followSplit : MethodName := ⟨RX0, "followSplit", "(I)V"⟩
abbrev cX0_followJoin : ByteArray := prog_2_method_16_code
def yX0_followJoin : MethodName := ⟨RX0, "followJoin", "(I)V"⟩
abbrev cX0_copyFrom : ByteArray := prog_2_method_17_code
def yX0_copyFrom : MethodName := ⟨RX0, "copyFrom", "(LFoldedRows$Folds;)V"⟩
abbrev cX0_areAtOdds : ByteArray := prog_2_method_18_code
def yX0_areAtOdds : MethodName := ⟨RX0, "areAtOdds", "(IIII)Z"⟩
abbrev cX0_comeAhead : ByteArray := prog_2_method_19_code
def yX0_comeAhead : MethodName := ⟨RX0, "comeAhead", "(IIII)Z"⟩
abbrev cX0_write : ByteArray := prog_2_method_20_code
def yX0_write : MethodName := ⟨RX0, "write", "(IIII)V"⟩
def RX1 : String := "FoldedRows$Frame"
def TX1 : u_T := fun k => match k with
  | 0 => ("FoldedRows$Frame", "lines", "LFoldedRows$Lines;", true)
  | 1 => ("FoldedRows$Frame", "folds", "LFoldedRows$Folds;", true)
  | 2 => ("FoldedRows$Frame", "caretLine", "I", false)
  | _ => ("FoldedRows$Frame", "caretPlace", "I", false)
def tyX1 : Nat → FieldType := fun k => match k with
  | 0 => .object "FoldedRows$Lines"
  | 1 => .object "FoldedRows$Folds"
  | 2 => .int
  | _ => .int
theorem nmX1 : ∀ a, a < 4 → ∀ b, b < 4 → a ≠ b → (TX1 a).2.1 ≠ (TX1 b).2.1 := by decide +kernel
theorem tyX1_ok : ∀ k, k < 4 → parseFieldDescriptor (TX1 k).2.2.1 = some (tyX1 k) := by decide +kernel
abbrev cX1_init : ByteArray := prog_3_method_1_code
def yX1_init : MethodName := ⟨RX1, "<init>", "()V"⟩
abbrev cX1_clear : ByteArray := prog_3_method_2_code
def yX1_clear : MethodName := ⟨RX1, "clear", "()V"⟩
abbrev cX1_copyFrom : ByteArray := prog_3_method_3_code
def yX1_copyFrom : MethodName := ⟨RX1, "copyFrom", "(LFoldedRows$Frame;)V"⟩
abbrev cX1_hiddenLines : ByteArray := prog_3_method_4_code
def yX1_hiddenLines : MethodName := ⟨RX1, "hiddenLines", "()I"⟩
abbrev cX1_shownLineAhead : ByteArray := prog_3_method_5_code
def yX1_shownLineAhead : MethodName := ⟨RX1, "shownLineAhead", "()I"⟩
abbrev cX1_shownLineBehind : ByteArray := prog_3_method_6_code
def yX1_shownLineBehind : MethodName := ⟨RX1, "shownLineBehind", "()I"⟩
def RX2 : String := "FoldedRows$History"
def TX2 : u_T := fun k => match k with
  | 0 => ("FoldedRows$History", "slots", "[LFoldedRows$Frame;", true)
  | 1 => ("FoldedRows$History", "done", "I", false)
  | _ => ("FoldedRows$History", "undone", "I", false)
def tyX2 : Nat → FieldType := fun k => match k with
  | 0 => .array (.object "FoldedRows$Frame")
  | 1 => .int
  | _ => .int
theorem nmX2 : ∀ a, a < 3 → ∀ b, b < 3 → a ≠ b → (TX2 a).2.1 ≠ (TX2 b).2.1 := by decide +kernel
theorem tyX2_ok : ∀ k, k < 3 → parseFieldDescriptor (TX2 k).2.2.1 = some (tyX2 k) := by decide +kernel
abbrev cX2_init : ByteArray := prog_4_method_1_code
def yX2_init : MethodName := ⟨RX2, "<init>", "()V"⟩
abbrev cX2_forget : ByteArray := prog_4_method_2_code
def yX2_forget : MethodName := ⟨RX2, "forget", "()V"⟩
abbrev cX2_remember : ByteArray := prog_4_method_3_code
def yX2_remember : MethodName := ⟨RX2, "remember", "(LFoldedRows$Frame;)V"⟩
abbrev cX2_takeBack : ByteArray := prog_4_method_4_code
def yX2_takeBack : MethodName := ⟨RX2, "takeBack", "(LFoldedRows$Frame;)LFoldedRows$Frame;"⟩
abbrev cX2_doAgain : ByteArray := prog_4_method_5_code
def yX2_doAgain : MethodName := ⟨RX2, "doAgain", "(LFoldedRows$Frame;)LFoldedRows$Frame;"⟩
abbrev cX2_exchange : ByteArray := prog_4_method_6_code
def yX2_exchange : MethodName := ⟨RX2, "exchange", "(ILFoldedRows$Frame;)LFoldedRows$Frame;"⟩
abbrev cX2_dropOldest : ByteArray := prog_4_method_7_code
def yX2_dropOldest : MethodName := ⟨RX2, "dropOldest", "()V"⟩
def RX3 : String := "FoldedRows$Image"
def TX3 : u_T := fun k => match k with
  | 0 => ("FoldedRows$Image", "frame", "LFoldedRows$Frame;", true)
  | 1 => ("FoldedRows$Image", "settings", "LFoldedRows$Settings;", true)
  | _ => ("FoldedRows$Image", "there", "Z", false)
def tyX3 : Nat → FieldType := fun k => match k with
  | 0 => .object "FoldedRows$Frame"
  | 1 => .object "FoldedRows$Settings"
  | _ => .boolean
theorem nmX3 : ∀ a, a < 3 → ∀ b, b < 3 → a ≠ b → (TX3 a).2.1 ≠ (TX3 b).2.1 := by decide +kernel
theorem tyX3_ok : ∀ k, k < 3 → parseFieldDescriptor (TX3 k).2.2.1 = some (tyX3 k) := by decide +kernel
abbrev cX3_init : ByteArray := prog_5_method_1_code
def yX3_init : MethodName := ⟨RX3, "<init>", "()V"⟩
def RX4 : String := "FoldedRows$LaidLine"
def TX4 : u_T := fun k => match k with
  | 0 => ("FoldedRows$LaidLine", "size", "I", false)
  | 1 => ("FoldedRows$LaidLine", "rows", "I", false)
  | 2 => ("FoldedRows$LaidLine", "indent", "I", false)
  | 3 => ("FoldedRows$LaidLine", "rowOfPlace", "[I", true)
  | 4 => ("FoldedRows$LaidLine", "columnOfPlace", "[I", true)
  | 5 => ("FoldedRows$LaidLine", "cellsOfSign", "[I", true)
  | 6 => ("FoldedRows$LaidLine", "hangs", "[I", true)
  | 7 => ("FoldedRows$LaidLine", "stops", "[I", true)
  | 8 => ("FoldedRows$LaidLine", "breaks", "[I", true)
  | 9 => ("FoldedRows$LaidLine", "rowBegins", "[I", true)
  | _ => ("FoldedRows$LaidLine", "columnsBehind", "[I", true)
def tyX4 : Nat → FieldType := fun k => match k with
  | 0 => .int
  | 1 => .int
  | 2 => .int
  | 3 => .array .int
  | 4 => .array .int
  | 5 => .array .int
  | 6 => .array .int
  | 7 => .array .int
  | 8 => .array .int
  | 9 => .array .int
  | _ => .array .int
theorem nmX4 : ∀ a, a < 11 → ∀ b, b < 11 → a ≠ b → (TX4 a).2.1 ≠ (TX4 b).2.1 := by decide +kernel
theorem tyX4_ok : ∀ k, k < 11 → parseFieldDescriptor (TX4 k).2.2.1 = some (tyX4 k) := by decide +kernel
abbrev cX4_init : ByteArray := prog_6_method_1_code
def yX4_init : MethodName := ⟨RX4, "<init>", "()V"⟩
abbrev cX4_arrange : ByteArray := prog_6_method_2_code
def yX4_arrange : MethodName := ⟨RX4, "arrange", "(LFoldedRows$Lines;ILFoldedRows$Settings;)V"⟩
abbrev cX4_stopCount : ByteArray := prog_6_method_3_code
def yX4_stopCount : MethodName := ⟨RX4, "stopCount", "()I"⟩
abbrev cX4_breakCount : ByteArray := prog_6_method_4_code
def yX4_breakCount : MethodName := ⟨RX4, "breakCount", "()I"⟩
abbrev cX4_hangCount : ByteArray := prog_6_method_5_code
def yX4_hangCount : MethodName := ⟨RX4, "hangCount", "()I"⟩
abbrev cX4_isStop : ByteArray := prog_6_method_6_code
def yX4_isStop : MethodName := ⟨RX4, "isStop", "(I)Z"⟩
abbrev cX4_isBreak : ByteArray := prog_6_method_7_code
def yX4_isBreak : MethodName := ⟨RX4, "isBreak", "(I)Z"⟩
abbrev cX4_rowOf : ByteArray := prog_6_method_8_code
def yX4_rowOf : MethodName := ⟨RX4, "rowOf", "(I)I"⟩
abbrev cX4_columnOf : ByteArray := prog_6_method_9_code
def yX4_columnOf : MethodName := ⟨RX4, "columnOf", "(I)I"⟩
abbrev cX4_firstPlace : ByteArray := prog_6_method_10_code
def yX4_firstPlace : MethodName := ⟨RX4, "firstPlace", "(I)I"⟩
abbrev cX4_firstColumn : ByteArray := prog_6_method_11_code
def yX4_firstColumn : MethodName := ⟨RX4, "firstColumn", "(I)I"⟩
abbrev cX4_columnBehind : ByteArray := prog_6_method_12_code
def yX4_columnBehind : MethodName := ⟨RX4, "columnBehind", "(I)I"⟩
abbrev cX4_placeCovering : ByteArray := prog_6_method_13_code
def yX4_placeCovering : MethodName := ⟨RX4, "placeCovering", "(II)I"⟩
abbrev cX4_placeNear : ByteArray := prog_6_method_14_code
def yX4_placeNear : MethodName := ⟨RX4, "placeNear", "(II)I"⟩
abbrev cX4_stopFrom : ByteArray := prog_6_method_15_code
def yX4_stopFrom : MethodName := ⟨RX4, "stopFrom", "(I)I"⟩
abbrev cX4_stopBehind : ByteArray := prog_6_method_16_code
def yX4_stopBehind : MethodName := ⟨RX4, "stopBehind", "(I)I"⟩
abbrev cX4_stopAhead : ByteArray := prog_6_method_17_code
def yX4_stopAhead : MethodName := ⟨RX4, "stopAhead", "(I)I"⟩
abbrev cX4_leadingCells : ByteArray := prog_6_method_18_code
def yX4_leadingCells : MethodName := ⟨RX4, "leadingCells", "(LFoldedRows$Lines;ILFoldedRows$Settings;)I"⟩
abbrev cX4_findBreaks : ByteArray := prog_6_method_19_code
def yX4_findBreaks : MethodName := ⟨RX4, "findBreaks", "(LFoldedRows$Lines;I)V"⟩
abbrev cX4_findStops : ByteArray := prog_6_method_20_code
def yX4_findStops : MethodName := ⟨RX4, "findStops", "(LFoldedRows$Lines;I)V"⟩
abbrev cX4_fillRow : ByteArray := prog_6_method_21_code
def yX4_fillRow : MethodName := ⟨RX4, "fillRow", "(LFoldedRows$Lines;IILFoldedRows$Settings;)I"⟩
abbrev cX4_rowEnd : ByteArray := prog_6_method_22_code
def yX4_rowEnd : MethodName := ⟨RX4, "rowEnd", "(II)I"⟩
def RX5 : String := "FoldedRows$Lines"
def TX5 : u_T := fun k => match k with
  | 0 => ("FoldedRows$Lines", "count", "I", false)
  | 1 => ("FoldedRows$Lines", "lengths", "[I", true)
  | _ => ("FoldedRows$Lines", "signs", "[I", true)
def tyX5 : Nat → FieldType := fun k => match k with
  | 0 => .int
  | 1 => .array .int
  | _ => .array .int
theorem nmX5 : ∀ a, a < 3 → ∀ b, b < 3 → a ≠ b → (TX5 a).2.1 ≠ (TX5 b).2.1 := by decide +kernel
theorem tyX5_ok : ∀ k, k < 3 → parseFieldDescriptor (TX5 k).2.2.1 = some (tyX5 k) := by decide +kernel
abbrev cX5_init : ByteArray := prog_7_method_1_code
def yX5_init : MethodName := ⟨RX5, "<init>", "()V"⟩
abbrev cX5_has : ByteArray := prog_7_method_2_code
def yX5_has : MethodName := ⟨RX5, "has", "(I)Z"⟩
abbrev cX5_hasPlace : ByteArray := prog_7_method_3_code
def yX5_hasPlace : MethodName := ⟨RX5, "hasPlace", "(II)Z"⟩
abbrev cX5_length : ByteArray := prog_7_method_4_code
def yX5_length : MethodName := ⟨RX5, "length", "(I)I"⟩
abbrev cX5_total : ByteArray := prog_7_method_5_code
def yX5_total : MethodName := ⟨RX5, "total", "()I"⟩
abbrev cX5_signOf : ByteArray := prog_7_method_6_code
def yX5_signOf : MethodName := ⟨RX5, "signOf", "(II)I"⟩
abbrev cX5_clear : ByteArray := prog_7_method_7_code
def yX5_clear : MethodName := ⟨RX5, "clear", "()V"⟩
abbrev cX5_addLine : ByteArray := prog_7_method_8_code
def yX5_addLine : MethodName := ⟨RX5, "addLine", "()V"⟩
abbrev cX5_append : ByteArray := prog_7_method_9_code
def yX5_append : MethodName := ⟨RX5, "append", "(II)V"⟩
abbrev cX5_insert : ByteArray := prog_7_method_10_code
def yX5_insert : MethodName := ⟨RX5, "insert", "(III)V"⟩
abbrev cX5_remove : ByteArray := prog_7_method_11_code
def yX5_remove : MethodName := ⟨RX5, "remove", "(III)V"⟩
abbrev cX5_divide : ByteArray := prog_7_method_12_code
def yX5_divide : MethodName := ⟨RX5, "divide", "(II)V"⟩
abbrev cX5_joinWithNext : ByteArray := prog_7_method_13_code
def yX5_joinWithNext : MethodName := ⟨RX5, "joinWithNext", "(I)V"⟩
abbrev cX5_copyFrom : ByteArray := prog_7_method_14_code
def yX5_copyFrom : MethodName := ⟨RX5, "copyFrom", "(LFoldedRows$Lines;)V"⟩
abbrev cX5_copyLine : ByteArray := prog_7_method_15_code
def yX5_copyLine : MethodName := ⟨RX5, "copyLine", "(II)V"⟩
abbrev cX5_appendPart : ByteArray := prog_7_method_16_code
def yX5_appendPart : MethodName := ⟨RX5, "appendPart", "(III)V"⟩
abbrev cX5_writeSign : ByteArray := prog_7_method_17_code
def yX5_writeSign : MethodName := ⟨RX5, "writeSign", "(III)V"⟩
def RX6 : String := "FoldedRows$Numbers"
def TX6 : u_T := fun k => match k with
  | _ => ("", "", "", false)
def tyX6 : Nat → FieldType := fun k => match k with
  | _ => .int
theorem nmX6 : ∀ a, a < 0 → ∀ b, b < 0 → a ≠ b → (TX6 a).2.1 ≠ (TX6 b).2.1 := by decide +kernel
theorem tyX6_ok : ∀ k, k < 0 → parseFieldDescriptor (TX6 k).2.2.1 = some (tyX6 k) := by decide +kernel
abbrev cX6_pick : ByteArray := prog_8_method_2_code
def yX6_pick : MethodName := ⟨RX6, "pick", "([II)I"⟩
abbrev cX6_put : ByteArray := prog_8_method_3_code
def yX6_put : MethodName := ⟨RX6, "put", "([III)V"⟩
abbrev cX6_copy : ByteArray := prog_8_method_4_code
def yX6_copy : MethodName := ⟨RX6, "copy", "([I[I)V"⟩
abbrev cX6_sum : ByteArray := prog_8_method_5_code
def yX6_sum : MethodName := ⟨RX6, "sum", "([II)I"⟩
def RX7 : String := "FoldedRows$Screen"
def TX7 : u_T := fun k => match k with
  | 0 => ("FoldedRows$Screen", "laid", "[LFoldedRows$LaidLine;", true)
  | _ => ("FoldedRows$Screen", "nowhere", "LFoldedRows$LaidLine;", true)
def tyX7 : Nat → FieldType := fun k => match k with
  | 0 => .array (.object "FoldedRows$LaidLine")
  | _ => .object "FoldedRows$LaidLine"
theorem nmX7 : ∀ a, a < 2 → ∀ b, b < 2 → a ≠ b → (TX7 a).2.1 ≠ (TX7 b).2.1 := by decide +kernel
theorem tyX7_ok : ∀ k, k < 2 → parseFieldDescriptor (TX7 k).2.2.1 = some (tyX7 k) := by decide +kernel
abbrev cX7_init : ByteArray := prog_9_method_1_code
def yX7_init : MethodName := ⟨RX7, "<init>", "()V"⟩
abbrev cX7_laidLine : ByteArray := prog_9_method_2_code
def yX7_laidLine : MethodName := ⟨RX7, "laidLine", "(I)LFoldedRows$LaidLine;"⟩
abbrev cX7_layLines : ByteArray := prog_9_method_3_code
def yX7_layLines : MethodName := ⟨RX7, "layLines", "(LFoldedRows$Lines;LFoldedRows$Settings;)V"⟩
abbrev cX7_rowCount : ByteArray := prog_9_method_4_code
def yX7_rowCount : MethodName := ⟨RX7, "rowCount", "(LFoldedRows$Frame;)I"⟩
abbrev cX7_firstRowOf : ByteArray := prog_9_method_5_code
def yX7_firstRowOf : MethodName := ⟨RX7, "firstRowOf", "(LFoldedRows$Frame;I)I"⟩
abbrev cX7_rowOf : ByteArray := prog_9_method_6_code
def yX7_rowOf : MethodName := ⟨RX7, "rowOf", "(LFoldedRows$Frame;II)I"⟩
abbrev cX7_lineOfRow : ByteArray := prog_9_method_7_code
def yX7_lineOfRow : MethodName := ⟨RX7, "lineOfRow", "(LFoldedRows$Frame;I)I"⟩
def RX8 : String := "FoldedRows$Settings"
def TX8 : u_T := fun k => match k with
  | 0 => ("FoldedRows$Settings", "width", "I", false)
  | 1 => ("FoldedRows$Settings", "tabs", "I", false)
  | 2 => ("FoldedRows$Settings", "mode", "I", false)
  | _ => ("FoldedRows$Settings", "extra", "I", false)
def tyX8 : Nat → FieldType := fun k => match k with
  | 0 => .int
  | 1 => .int
  | 2 => .int
  | _ => .int
theorem nmX8 : ∀ a, a < 4 → ∀ b, b < 4 → a ≠ b → (TX8 a).2.1 ≠ (TX8 b).2.1 := by decide +kernel
theorem tyX8_ok : ∀ k, k < 4 → parseFieldDescriptor (TX8 k).2.2.1 = some (tyX8 k) := by decide +kernel
abbrev cX8_init : ByteArray := prog_10_method_1_code
def yX8_init : MethodName := ⟨RX8, "<init>", "()V"⟩
abbrev cX8_allows : ByteArray := prog_10_method_2_code
def yX8_allows : MethodName := ⟨RX8, "allows", "(II)Z"⟩
abbrev cX8_change : ByteArray := prog_10_method_3_code
def yX8_change : MethodName := ⟨RX8, "change", "(II)I"⟩
abbrev cX8_copyFrom : ByteArray := prog_10_method_4_code
def yX8_copyFrom : MethodName := ⟨RX8, "copyFrom", "(LFoldedRows$Settings;)V"⟩
abbrev cX8_cellsToTabStop : ByteArray := prog_10_method_5_code
def yX8_cellsToTabStop : MethodName := ⟨RX8, "cellsToTabStop", "(I)I"⟩
abbrev cX8_cellsOf : ByteArray := prog_10_method_6_code
def yX8_cellsOf : MethodName := ⟨RX8, "cellsOf", "(III)I"⟩
abbrev cX8_fits : ByteArray := prog_10_method_7_code
def yX8_fits : MethodName := ⟨RX8, "fits", "(III)Z"⟩
def RX9 : String := "FoldedRows$Sheet"
def TX9 : u_T := fun k => match k with
  | 0 => ("FoldedRows$Sheet", "there", "Z", false)
  | 1 => ("FoldedRows$Sheet", "lane", "I", false)
  | 2 => ("FoldedRows$Sheet", "size", "I", false)
  | _ => ("FoldedRows$Sheet", "cells", "[I", true)
def tyX9 : Nat → FieldType := fun k => match k with
  | 0 => .boolean
  | 1 => .int
  | 2 => .int
  | _ => .array .int
theorem nmX9 : ∀ a, a < 4 → ∀ b, b < 4 → a ≠ b → (TX9 a).2.1 ≠ (TX9 b).2.1 := by decide +kernel
theorem tyX9_ok : ∀ k, k < 4 → parseFieldDescriptor (TX9 k).2.2.1 = some (tyX9 k) := by decide +kernel
abbrev cX9_init : ByteArray := prog_11_method_1_code
def yX9_init : MethodName := ⟨RX9, "<init>", "()V"⟩
def RX10 : String := "FoldedRows$Tape"
def TX10 : u_T := fun k => match k with
  | 0 => ("FoldedRows$Tape", "bytes", "[I", true)
  | 1 => ("FoldedRows$Tape", "begun", "[I", true)
  | 2 => ("FoldedRows$Tape", "size", "I", false)
  | 3 => ("FoldedRows$Tape", "faultPlace", "I", false)
  | 4 => ("FoldedRows$Tape", "open", "I", false)
  | _ => ("FoldedRows$Tape", "begunInAll", "I", false)
def tyX10 : Nat → FieldType := fun k => match k with
  | 0 => .array .int
  | 1 => .array .int
  | 2 => .int
  | 3 => .int
  | 4 => .int
  | _ => .int
theorem nmX10 : ∀ a, a < 6 → ∀ b, b < 6 → a ≠ b → (TX10 a).2.1 ≠ (TX10 b).2.1 := by decide +kernel
theorem tyX10_ok : ∀ k, k < 6 → parseFieldDescriptor (TX10 k).2.2.1 = some (tyX10 k) := by decide +kernel
abbrev cX10_init : ByteArray := prog_12_method_1_code
def yX10_init : MethodName := ⟨RX10, "<init>", "()V"⟩
abbrev cX10_append : ByteArray := prog_12_method_2_code
def yX10_append : MethodName := ⟨RX10, "append", "(I)Z"⟩
abbrev cX10_readInto : ByteArray := prog_12_method_3_code
def yX10_readInto : MethodName := ⟨RX10, "readInto", "(LFoldedRows$Frame;)I"⟩
abbrev cX10_readByte : ByteArray := prog_12_method_4_code
def yX10_readByte : MethodName := ⟨RX10, "readByte", "(ILFoldedRows$Frame;)I"⟩
abbrev cX10_endLine : ByteArray := prog_12_method_5_code
def yX10_endLine : MethodName := ⟨RX10, "endLine", "(LFoldedRows$Lines;)I"⟩
abbrev cX10_beginFold : ByteArray := prog_12_method_6_code
def yX10_beginFold : MethodName := ⟨RX10, "beginFold", "(I)I"⟩
abbrev cX10_endFold : ByteArray := prog_12_method_7_code
def yX10_endFold : MethodName := ⟨RX10, "endFold", "(LFoldedRows$Folds;I)I"⟩
def RX11 : String := "FoldedRows"
def TX11 : u_T := fun k => match k with
  | 0 => ("FoldedRows", "tape", "LFoldedRows$Tape;", true)
  | 1 => ("FoldedRows", "settings", "LFoldedRows$Settings;", true)
  | 2 => ("FoldedRows", "history", "LFoldedRows$History;", true)
  | 3 => ("FoldedRows", "screen", "LFoldedRows$Screen;", true)
  | 4 => ("FoldedRows", "images", "[LFoldedRows$Image;", true)
  | 5 => ("FoldedRows", "sheets", "[LFoldedRows$Sheet;", true)
  | 6 => ("FoldedRows", "now", "LFoldedRows$Frame;", false)
  | 7 => ("FoldedRows", "spare", "LFoldedRows$Frame;", false)
  | 8 => ("FoldedRows", "goal", "I", false)
  | _ => ("FoldedRows", "latestFault", "I", false)
def tyX11 : Nat → FieldType := fun k => match k with
  | 0 => .object "FoldedRows$Tape"
  | 1 => .object "FoldedRows$Settings"
  | 2 => .object "FoldedRows$History"
  | 3 => .object "FoldedRows$Screen"
  | 4 => .array (.object "FoldedRows$Image")
  | 5 => .array (.object "FoldedRows$Sheet")
  | 6 => .object "FoldedRows$Frame"
  | 7 => .object "FoldedRows$Frame"
  | 8 => .int
  | _ => .int
theorem nmX11 : ∀ a, a < 10 → ∀ b, b < 10 → a ≠ b → (TX11 a).2.1 ≠ (TX11 b).2.1 := by decide +kernel
theorem tyX11_ok : ∀ k, k < 10 → parseFieldDescriptor (TX11 k).2.2.1 = some (tyX11 k) := by decide +kernel
abbrev cX11_init : ByteArray := prog_1_method_1_code
def yX11_init : MethodName := ⟨RX11, "<init>", "()V"⟩
abbrev cX11_feed : ByteArray := prog_1_method_2_code
def yX11_feed : MethodName := ⟨RX11, "feed", "(I)I"⟩
abbrev cX11_text : ByteArray := prog_1_method_4_code
def yX11_text : MethodName := ⟨RX11, "text", "()I"⟩
abbrev cX11_fault : ByteArray := prog_1_method_5_code
def yX11_fault : MethodName := ⟨RX11, "fault", "()I"⟩
abbrev cX11_rule : ByteArray := prog_1_method_6_code
def yX11_rule : MethodName := ⟨RX11, "rule", "(I)I"⟩
abbrev cX11_sign : ByteArray := prog_1_method_7_code
def yX11_sign : MethodName := ⟨RX11, "sign", "(II)I"⟩
abbrev cX11_line : ByteArray := prog_1_method_8_code
def yX11_line : MethodName := ⟨RX11, "line", "(II)I"⟩
abbrev cX11_row : ByteArray := prog_1_method_9_code
def yX11_row : MethodName := ⟨RX11, "row", "(II)I"⟩
abbrev cX11_cell : ByteArray := prog_1_method_10_code
def yX11_cell : MethodName := ⟨RX11, "cell", "(II)I"⟩
abbrev cX11_at : ByteArray := prog_1_method_11_code
def yX11_at : MethodName := ⟨RX11, "at", "(III)I"⟩
abbrev cX11_to : ByteArray := prog_1_method_12_code
def yX11_to : MethodName := ⟨RX11, "to", "(II)I"⟩
abbrev cX11_fold : ByteArray := prog_1_method_13_code
def yX11_fold : MethodName := ⟨RX11, "fold", "(II)I"⟩
abbrev cX11_caret : ByteArray := prog_1_method_14_code
def yX11_caret : MethodName := ⟨RX11, "caret", "(I)I"⟩
abbrev cX11_step : ByteArray := prog_1_method_16_code
def yX11_step : MethodName := ⟨RX11, "step", "(I)I"⟩
abbrev cX11_down : ByteArray := prog_1_method_17_code
def yX11_down : MethodName := ⟨RX11, "down", "(I)I"⟩
abbrev cX11_edge : ByteArray := prog_1_method_18_code
def yX11_edge : MethodName := ⟨RX11, "edge", "(I)I"⟩
abbrev cX11_type : ByteArray := prog_1_method_19_code
def yX11_type : MethodName := ⟨RX11, "type", "(I)I"⟩
abbrev cX11_erase : ByteArray := prog_1_method_20_code
def yX11_erase : MethodName := ⟨RX11, "erase", "()I"⟩
abbrev cX11_split : ByteArray := prog_1_method_21_code
def yX11_split : MethodName := ⟨RX11, "split", "()I"⟩
abbrev cX11_undo : ByteArray := prog_1_method_22_code
def yX11_undo : MethodName := ⟨RX11, "undo", "()I"⟩
abbrev cX11_redo : ByteArray := prog_1_method_23_code
def yX11_redo : MethodName := ⟨RX11, "redo", "()I"⟩
abbrev cX11_wrap : ByteArray := prog_1_method_24_code
def yX11_wrap : MethodName := ⟨RX11, "wrap", "(II)I"⟩
abbrev cX11_shut : ByteArray := prog_1_method_25_code
def yX11_shut : MethodName := ⟨RX11, "shut", "(II)I"⟩
abbrev cX11_set : ByteArray := prog_1_method_27_code
def yX11_set : MethodName := ⟨RX11, "set", "(II)I"⟩
abbrev cX11_keep : ByteArray := prog_1_method_28_code
def yX11_keep : MethodName := ⟨RX11, "keep", "(I)I"⟩
abbrev cX11_back : ByteArray := prog_1_method_29_code
def yX11_back : MethodName := ⟨RX11, "back", "(I)I"⟩
abbrev cX11_joinWithLineAhead : ByteArray := prog_1_method_33_code
def yX11_joinWithLineAhead : MethodName := ⟨RX11, "joinWithLineAhead", "()I"⟩
abbrev cX11_layAll : ByteArray := prog_1_method_34_code
def yX11_layAll : MethodName := ⟨RX11, "layAll", "()V"⟩
abbrev cX11_layCaretLine : ByteArray := prog_1_method_35_code
def yX11_layCaretLine : MethodName := ⟨RX11, "layCaretLine", "()V"⟩
abbrev cX11_settleCaret : ByteArray := prog_1_method_36_code
def yX11_settleCaret : MethodName := ⟨RX11, "settleCaret", "()V"⟩
abbrev cX11_moveCaret : ByteArray := prog_1_method_37_code
def yX11_moveCaret : MethodName := ⟨RX11, "moveCaret", "(II)V"⟩
abbrev cX11_caretRow : ByteArray := prog_1_method_38_code
def yX11_caretRow : MethodName := ⟨RX11, "caretRow", "()I"⟩
abbrev cX11_caretColumn : ByteArray := prog_1_method_39_code
def yX11_caretColumn : MethodName := ⟨RX11, "caretColumn", "()I"⟩
abbrev cX11_imageCount : ByteArray := prog_1_method_40_code
def yX11_imageCount : MethodName := ⟨RX11, "imageCount", "()I"⟩
abbrev cX11_forgetImage : ByteArray := prog_1_method_41_code
def yX11_forgetImage : MethodName := ⟨RX11, "forgetImage", "(I)V"⟩
abbrev cX11_imageOf : ByteArray := prog_1_method_42_code
def yX11_imageOf : MethodName := ⟨RX11, "imageOf", "(I)LFoldedRows$Image;"⟩
abbrev cX11_isWide : ByteArray := prog_1_method_44_code
def yX11_isWide : MethodName := ⟨RX11, "isWide", "(I)Z"⟩
abbrev cX11_isGap : ByteArray := prog_1_method_45_code
def yX11_isGap : MethodName := ⟨RX11, "isGap", "(I)Z"⟩
abbrev cX11_isSign : ByteArray := prog_1_method_46_code
def yX11_isSign : MethodName := ⟨RX11, "isSign", "(I)Z"⟩
abbrev cX11_letsBreakBehind : ByteArray := prog_1_method_47_code
def yX11_letsBreakBehind : MethodName := ⟨RX11, "letsBreakBehind", "(I)Z"⟩
def RX12 : String := "FoldedRowsModel"
def TX12 : u_T := fun k => match k with
  | _ => ("", "", "", false)
def tyX12 : Nat → FieldType := fun k => match k with
  | _ => .int
theorem nmX12 : ∀ a, a < 0 → ∀ b, b < 0 → a ≠ b → (TX12 a).2.1 ≠ (TX12 b).2.1 := by decide +kernel
theorem tyX12_ok : ∀ k, k < 0 → parseFieldDescriptor (TX12 k).2.2.1 = some (tyX12 k) := by decide +kernel
def RL : String := "FoldedRowsLaw"
abbrev cL_part : ByteArray := method_2_code
def yL_part : MethodName := ⟨RL, "part", "(II)I"⟩
abbrev cL_cell : ByteArray := method_3_code
def yL_cell : MethodName := ⟨RL, "cell", "([II)I"⟩
abbrev cL_signOf : ByteArray := method_4_code
def yL_signOf : MethodName := ⟨RL, "signOf", "(I)I"⟩
abbrev cL_put : ByteArray := method_7_code
def yL_put : MethodName := ⟨RL, "put", "([JIII)V"⟩
abbrev cL_cross : ByteArray := method_8_code
def yL_cross : MethodName := ⟨RL, "cross", "(IIII)Z"⟩
abbrev cL_clashes : ByteArray := method_9_code
def yL_clashes : MethodName := ⟨RL, "clashes", "([IIII)Z"⟩
abbrev cL_comes : ByteArray := method_10_code
def yL_comes : MethodName := ⟨RL, "comes", "([III)I"⟩
abbrev cL_tell : ByteArray := method_12_code
def yL_tell : MethodName := ⟨RL, "tell", "(LFoldedRows;[J[I[II)Z"⟩
abbrev cL_all : ByteArray := method_14_code
def yL_all : MethodName := ⟨RL, "all", "(LFoldedRows;)I"⟩
abbrev cL_steady : ByteArray := method_15_code
def yL_steady : MethodName := ⟨RL, "steady", "(LFoldedRows;)Z"⟩
abbrev cL_nested : ByteArray := method_16_code
def yL_nested : MethodName := ⟨RL, "nested", "(LFoldedRows;)Z"⟩
abbrev cL_acts : ByteArray := method_17_code
def yL_acts : MethodName := ⟨RL, "acts", "(LFoldedRows;I)Z"⟩
abbrev cL_takes : ByteArray := method_18_code
def yL_takes : MethodName := ⟨RL, "takes", "(LFoldedRows;I)Z"⟩
abbrev cL_sets : ByteArray := method_19_code
def yL_sets : MethodName := ⟨RL, "sets", "(LFoldedRows;I)Z"⟩
abbrev cL_law : ByteArray := code
def yL_law : MethodName := ⟨RL, "law", "([I)Z"⟩
abbrev vwCl : List vw_C := [(RX0, TX0, 4), (RX1, TX1, 4), (RX2, TX2, 3), (RX3, TX3, 3), (RX4, TX4, 11), (RX5, TX5, 3), (RX7, TX7, 2), (RX8, TX8, 4), (RX9, TX9, 4), (RX10, TX10, 6), (RX11, TX11, 10)]
theorem zi_mem {big ws : List Jvm.Cond} (ps : List Nat) (h : ws.map some = ps.map (fun i => big[i]?)) : ∀ w ∈ ws, w ∈ big := by
  intro w hw
  have h1 : some w ∈ ws.map some := List.mem_map.mpr ⟨w, hw, rfl⟩
  rw [h] at h1
  obtain ⟨i, -, hi⟩ := List.mem_map.mp h1
  exact List.mem_of_getElem? hi
/-- the words that a callee may be told -/
def zi_tb : List Jvm.Cond := lw_tbl.filter goodWord
theorem zi_tb_of {w : Jvm.Cond} (h : w ∈ lw_tbl) (g : goodWord w = true) : w ∈ zi_tb := List.mem_filter.mpr ⟨h, g⟩
theorem zi_mem2 {ws : List Jvm.Cond} (ps : List Nat) (h : ws.map some = ps.map (fun i => lw_tbl[i]?)) (g : ws.all goodWord = true) : ∀ w ∈ ws, w ∈ zi_tb := fun w hw => zi_tb_of (zi_mem ps h w hw) (List.all_eq_true.mp g w hw)
theorem zi_inX0 : ∀ w ∈ u_ws RX0 TX0 4, w ∈ zi_tb := zi_mem2 [146, 148, 150, 152] (by decide +kernel) (by decide +kernel)
theorem zi_inX1 : ∀ w ∈ u_ws RX1 TX1 4, w ∈ zi_tb := zi_mem2 [167, 169, 171, 173] (by decide +kernel) (by decide +kernel)
theorem zi_inX2 : ∀ w ∈ u_ws RX2 TX2 3, w ∈ zi_tb := zi_mem2 [181, 183, 185] (by decide +kernel) (by decide +kernel)
theorem zi_inX3 : ∀ w ∈ u_ws RX3 TX3 3, w ∈ zi_tb := zi_mem2 [266, 268, 270] (by decide +kernel) (by decide +kernel)
theorem zi_inX4 : ∀ w ∈ u_ws RX4 TX4 11, w ∈ zi_tb := zi_mem2 [215, 217, 219, 221, 223, 225, 227, 229, 231, 233, 235] (by decide +kernel) (by decide +kernel)
theorem zi_inX5 : ∀ w ∈ u_ws RX5 TX5 3, w ∈ zi_tb := zi_mem2 [128, 130, 132] (by decide +kernel) (by decide +kernel)
theorem zi_inX7 : ∀ w ∈ u_ws RX7 TX7 2, w ∈ zi_tb := zi_mem2 [240, 242] (by decide +kernel) (by decide +kernel)
theorem zi_inX8 : ∀ w ∈ u_ws RX8 TX8 4, w ∈ zi_tb := zi_mem2 [93, 95, 97, 99] (by decide +kernel) (by decide +kernel)
theorem zi_inX9 : ∀ w ∈ u_ws RX9 TX9 4, w ∈ zi_tb := zi_mem2 [282, 284, 286, 288] (by decide +kernel) (by decide +kernel)
theorem zi_inX10 : ∀ w ∈ u_ws RX10 TX10 6, w ∈ zi_tb := zi_mem2 [62, 64, 66, 68, 70, 72] (by decide +kernel) (by decide +kernel)
theorem zi_inX11 : ∀ w ∈ u_ws RX11 TX11 10, w ∈ zi_tb := zi_mem2 [422, 424, 426, 428, 430, 432, 434, 436, 438, 440] (by decide +kernel) (by decide +kernel)
/-- what is known of a class of objects, by its kind -/
def zi_tk (k : Nat) (ty : FieldType) : Prop := match k with
  | 1 => ty = .int
  | 2 => ty = .boolean
  | 3 => (∃ C, ty = .object C) ∨ ∃ t, ty = .array t
  | _ => False
def zi_ck1 (a : Nat) (q : vw_C) : Prop := (∀ w ∈ u_ws q.1 q.2.1 q.2.2, w ∈ zi_tb) ∧ ∃ ty : Nat → FieldType, (∀ k, k < q.2.2 → parseFieldDescriptor (q.2.1 k).2.2.1 = some (ty k)) ∧ (∀ a, a < q.2.2 → ∀ b, b < q.2.2 → a ≠ b → (q.2.1 a).2.1 ≠ (q.2.1 b).2.1) ∧ (∀ k, k < q.2.2 → zi_tk (zi_ft a k) (ty k)) ∧ ∀ k, k < q.2.2 → (q.2.1 k).1 = q.1
theorem zi_lt_cases {P : Nat → Prop} : ∀ {n : Nat}, (∀ k, k < n → P k) → P n → ∀ k, k < n + 1 → P k := fun h1 h2 k hk => by
  rcases Nat.lt_succ_iff_lt_or_eq.mp hk with h | h
  · exact h1 k h
  · exact h ▸ h2
theorem zi_lt0 {P : Nat → Prop} : ∀ k, k < 0 → P k := fun k h => absurd h (Nat.not_lt_zero k)
theorem zi_clX0 : zi_ck1 0 (RX0, TX0, 4) := ⟨zi_inX0, tyX0, tyX0_ok, nmX0, (zi_lt_cases (zi_lt_cases (zi_lt_cases (zi_lt_cases zi_lt0 rfl) (Or.inr ⟨_, rfl⟩)) (Or.inr ⟨_, rfl⟩)) (Or.inr ⟨_, rfl⟩)), (zi_lt_cases (zi_lt_cases (zi_lt_cases (zi_lt_cases zi_lt0 rfl) rfl) rfl) rfl)⟩
theorem zi_clX1 : zi_ck1 1 (RX1, TX1, 4) := ⟨zi_inX1, tyX1, tyX1_ok, nmX1, (zi_lt_cases (zi_lt_cases (zi_lt_cases (zi_lt_cases zi_lt0 (Or.inl ⟨_, rfl⟩)) (Or.inl ⟨_, rfl⟩)) rfl) rfl), (zi_lt_cases (zi_lt_cases (zi_lt_cases (zi_lt_cases zi_lt0 rfl) rfl) rfl) rfl)⟩
theorem zi_clX2 : zi_ck1 2 (RX2, TX2, 3) := ⟨zi_inX2, tyX2, tyX2_ok, nmX2, (zi_lt_cases (zi_lt_cases (zi_lt_cases zi_lt0 (Or.inr ⟨_, rfl⟩)) rfl) rfl), (zi_lt_cases (zi_lt_cases (zi_lt_cases zi_lt0 rfl) rfl) rfl)⟩
theorem zi_clX3 : zi_ck1 3 (RX3, TX3, 3) := ⟨zi_inX3, tyX3, tyX3_ok, nmX3, (zi_lt_cases (zi_lt_cases (zi_lt_cases zi_lt0 (Or.inl ⟨_, rfl⟩)) (Or.inl ⟨_, rfl⟩)) rfl), (zi_lt_cases (zi_lt_cases (zi_lt_cases zi_lt0 rfl) rfl) rfl)⟩
theorem zi_clX4 : zi_ck1 4 (RX4, TX4, 11) := ⟨zi_inX4, tyX4, tyX4_ok, nmX4, (zi_lt_cases (zi_lt_cases (zi_lt_cases (zi_lt_cases (zi_lt_cases (zi_lt_cases (zi_lt_cases (zi_lt_cases (zi_lt_cases (zi_lt_cases (zi_lt_cases zi_lt0 rfl) rfl) rfl) (Or.inr ⟨_, rfl⟩)) (Or.inr ⟨_, rfl⟩)) (Or.inr ⟨_, rfl⟩)) (Or.inr ⟨_, rfl⟩)) (Or.inr ⟨_, rfl⟩)) (Or.inr ⟨_, rfl⟩)) (Or.inr ⟨_, rfl⟩)) (Or.inr ⟨_, rfl⟩)), (zi_lt_cases (zi_lt_cases (zi_lt_cases (zi_lt_cases (zi_lt_cases (zi_lt_cases (zi_lt_cases (zi_lt_cases (zi_lt_cases (zi_lt_cases (zi_lt_cases zi_lt0 rfl) rfl) rfl) rfl) rfl) rfl) rfl) rfl) rfl) rfl) rfl)⟩
theorem zi_clX5 : zi_ck1 5 (RX5, TX5, 3) := ⟨zi_inX5, tyX5, tyX5_ok, nmX5, (zi_lt_cases (zi_lt_cases (zi_lt_cases zi_lt0 rfl) (Or.inr ⟨_, rfl⟩)) (Or.inr ⟨_, rfl⟩)), (zi_lt_cases (zi_lt_cases (zi_lt_cases zi_lt0 rfl) rfl) rfl)⟩
theorem zi_clX7 : zi_ck1 6 (RX7, TX7, 2) := ⟨zi_inX7, tyX7, tyX7_ok, nmX7, (zi_lt_cases (zi_lt_cases zi_lt0 (Or.inr ⟨_, rfl⟩)) (Or.inl ⟨_, rfl⟩)), (zi_lt_cases (zi_lt_cases zi_lt0 rfl) rfl)⟩
theorem zi_clX8 : zi_ck1 7 (RX8, TX8, 4) := ⟨zi_inX8, tyX8, tyX8_ok, nmX8, (zi_lt_cases (zi_lt_cases (zi_lt_cases (zi_lt_cases zi_lt0 rfl) rfl) rfl) rfl), (zi_lt_cases (zi_lt_cases (zi_lt_cases (zi_lt_cases zi_lt0 rfl) rfl) rfl) rfl)⟩
theorem zi_clX9 : zi_ck1 8 (RX9, TX9, 4) := ⟨zi_inX9, tyX9, tyX9_ok, nmX9, (zi_lt_cases (zi_lt_cases (zi_lt_cases (zi_lt_cases zi_lt0 rfl) rfl) rfl) (Or.inr ⟨_, rfl⟩)), (zi_lt_cases (zi_lt_cases (zi_lt_cases (zi_lt_cases zi_lt0 rfl) rfl) rfl) rfl)⟩
theorem zi_clX10 : zi_ck1 9 (RX10, TX10, 6) := ⟨zi_inX10, tyX10, tyX10_ok, nmX10, (zi_lt_cases (zi_lt_cases (zi_lt_cases (zi_lt_cases (zi_lt_cases (zi_lt_cases zi_lt0 (Or.inr ⟨_, rfl⟩)) (Or.inr ⟨_, rfl⟩)) rfl) rfl) rfl) rfl), (zi_lt_cases (zi_lt_cases (zi_lt_cases (zi_lt_cases (zi_lt_cases (zi_lt_cases zi_lt0 rfl) rfl) rfl) rfl) rfl) rfl)⟩
theorem zi_clX11 : zi_ck1 10 (RX11, TX11, 10) := ⟨zi_inX11, tyX11, tyX11_ok, nmX11, (zi_lt_cases (zi_lt_cases (zi_lt_cases (zi_lt_cases (zi_lt_cases (zi_lt_cases (zi_lt_cases (zi_lt_cases (zi_lt_cases (zi_lt_cases zi_lt0 (Or.inl ⟨_, rfl⟩)) (Or.inl ⟨_, rfl⟩)) (Or.inl ⟨_, rfl⟩)) (Or.inl ⟨_, rfl⟩)) (Or.inr ⟨_, rfl⟩)) (Or.inr ⟨_, rfl⟩)) (Or.inl ⟨_, rfl⟩)) (Or.inl ⟨_, rfl⟩)) rfl) rfl), (zi_lt_cases (zi_lt_cases (zi_lt_cases (zi_lt_cases (zi_lt_cases (zi_lt_cases (zi_lt_cases (zi_lt_cases (zi_lt_cases (zi_lt_cases zi_lt0 rfl) rfl) rfl) rfl) rfl) rfl) rfl) rfl) rfl) rfl)⟩
theorem zi_cls {a : Nat} {q : vw_C} (h : vwCl[a]? = some q) : zi_ck1 a q := by
  match a, h with
  | 0, h => cases h; exact zi_clX0
  | 1, h => cases h; exact zi_clX1
  | 2, h => cases h; exact zi_clX2
  | 3, h => cases h; exact zi_clX3
  | 4, h => cases h; exact zi_clX4
  | 5, h => cases h; exact zi_clX5
  | 6, h => cases h; exact zi_clX7
  | 7, h => cases h; exact zi_clX8
  | 8, h => cases h; exact zi_clX9
  | 9, h => cases h; exact zi_clX10
  | 10, h => cases h; exact zi_clX11
  | a + 11, h => simp [vwCl] at h
end
section
/-! locals -/
def zi_lr (ls : zL) (nL : Nat) (L : Array Slot) : Prop := ls.length = nL ∧ L.size = nL ∧ lv_wf L ∧ ∀ i v, zi_get ls i = some v → L[i]? = some (.val (zi_v v)) ∧ zi_in v
def zi_ll (ls : zL) : List (Nat × Value) := (List.range ls.length).filterMap fun i => (zi_get ls i).map fun v => (i, zi_v v)
theorem zi_get_lt : ∀ {ls : zL} {i : Nat} {v : zV}, zi_get ls i = some v → i < ls.length
  | [], _, _, h => by cases h
  | _ :: _, 0, _, _ => by simp
  | _ :: l, i + 1, _, h => by
    have := zi_get_lt (ls := l) (i := i) h
    simp; omega
theorem zi_ll_mem {ls : zL} {q : Nat × Value} : q ∈ zi_ll ls ↔ ∃ v, zi_get ls q.1 = some v ∧ q.2 = zi_v v := by
  unfold zi_ll
  rw [List.mem_filterMap]
  constructor
  · rintro ⟨i, -, h⟩
    cases hv : zi_get ls i with
    | none => rw [hv] at h; cases h
    | some v =>
      rw [hv] at h
      cases h
      exact ⟨v, hv, rfl⟩
  · rintro ⟨v, h1, h2⟩
    refine ⟨q.1, List.mem_range.mpr (zi_get_lt h1), ?_⟩
    rw [h1]
    show some (q.1, zi_v v) = some q
    rw [← h2]
theorem zi_lr_has {ls : zL} {nL : Nat} {L : Array Slot} (h : zi_lr ls nL L) : lv_has L nL (zi_ll ls) := by
  refine ⟨h.2.1, h.2.2.1, fun q hq => ?_⟩
  obtain ⟨v, h1, h2⟩ := zi_ll_mem.mp hq
  rw [h2]
  exact (h.2.2.2 q.1 v h1).1
theorem zi_set_spec : ∀ {ls ls' : zL} {i : Nat} {v : zV}, zi_set ls i v = some ls' → ls'.length = ls.length ∧ i < ls.length ∧ zi_get ls' i = some v ∧ ∀ j u, j ≠ i → zi_get ls' j = some u → zi_get ls j = some u ∧ ¬(j + 1 = i ∧ ∃ x, u = .inr (.inl x))
  | [], _, _, _, h => by cases h
  | w :: l, ls', 0, v, h => by
    cases h
    refine ⟨rfl, by simp, rfl, fun j u hj hu => ?_⟩
    cases j with
    | zero => exact absurd rfl hj
    | succ j => exact ⟨hu, fun q => by omega⟩
  | none :: l, ls', i + 1, v, h => by
    cases h1 : zi_set l i v with
    | none => simp [zi_set, h1] at h
    | some l' =>
      simp [zi_set, h1] at h
      subst h
      obtain ⟨a1, a2, a3, a4⟩ := zi_set_spec h1
      refine ⟨by simp [a1], by simp; omega, a3, fun j u hj hu => ?_⟩
      cases j with
      | zero => cases hu
      | succ j =>
        obtain ⟨b1, b2⟩ := a4 j u (by omega) hu
        exact ⟨b1, fun q => b2 ⟨by omega, q.2⟩⟩
  | some (.inl x) :: l, ls', i + 1, v, h => by
    cases h1 : zi_set l i v with
    | none => simp [zi_set, h1] at h
    | some l' =>
      simp [zi_set, h1] at h
      subst h
      obtain ⟨a1, a2, a3, a4⟩ := zi_set_spec h1
      refine ⟨by simp [a1], by simp; omega, a3, fun j u hj hu => ?_⟩
      cases j with
      | zero => cases hu; exact ⟨rfl, fun q => by obtain ⟨-, x, q⟩ := q; cases q⟩
      | succ j =>
        obtain ⟨b1, b2⟩ := a4 j u (by omega) hu
        exact ⟨b1, fun q => b2 ⟨by omega, q.2⟩⟩
  | some (.inr (.inr x)) :: l, ls', i + 1, v, h => by
    cases h1 : zi_set l i v with
    | none => simp [zi_set, h1] at h
    | some l' =>
      simp [zi_set, h1] at h
      subst h
      obtain ⟨a1, a2, a3, a4⟩ := zi_set_spec h1
      refine ⟨by simp [a1], by simp; omega, a3, fun j u hj hu => ?_⟩
      cases j with
      | zero => cases hu; exact ⟨rfl, fun q => by obtain ⟨-, x, q⟩ := q; cases q⟩
      | succ j =>
        obtain ⟨b1, b2⟩ := a4 j u (by omega) hu
        exact ⟨b1, fun q => b2 ⟨by omega, q.2⟩⟩
  | some (.inr (.inl x)) :: l, ls', 0 + 1, v, h => by cases h
  | some (.inr (.inl x)) :: l, ls', (i + 1) + 1, v, h => by
    cases h1 : zi_set l (i + 1) v with
    | none => simp [zi_set, h1] at h
    | some l' =>
      simp [zi_set, h1] at h
      subst h
      obtain ⟨a1, a2, a3, a4⟩ := zi_set_spec h1
      refine ⟨by simp [a1], by simp; omega, a3, fun j u hj hu => ?_⟩
      cases j with
      | zero => cases hu; exact ⟨rfl, fun q => by omega⟩
      | succ j =>
        obtain ⟨b1, b2⟩ := a4 j u (by omega) hu
        exact ⟨b1, fun q => b2 ⟨by omega, q.2⟩⟩
theorem zi_v_cat {v : zV} (h : (zi_v v).category = 2) : ∃ x, v = .inr (.inl x) := by
  match v with
  | .inl x => cases h
  | .inr (.inl x) => exact ⟨x, rfl⟩
  | .inr (.inr x) =>
    exfalso
    change (va_rf (zi_ro x)).category = 2 at h
    cases hr : zi_ro x with
    | none => rw [hr] at h; cases h
    | some y => rw [hr] at h; cases h
theorem zi_v_cat1 {v : zV} (h : zi_c1 v = true) : (zi_v v).category = 1 := by
  match v with
  | .inl x => rfl
  | .inr (.inl x) => cases h
  | .inr (.inr x) =>
    show (va_rf (zi_ro x)).category = 1
    unfold va_rf
    split <;> rfl
theorem zi_lr_set1 {ls ls' : zL} {nL i : Nat} {v : zV} {L L' : Array Slot} (h : zi_lr ls nL L) (hs : zi_set ls i v = some ls') (hv : zi_in v) (hL : lv_has L' nL ((i, zi_v v) :: (zi_ll ls).filter (fun q => !(q.1 == i) && !(q.1 + 1 == i && q.2.category == 2)))) : zi_lr ls' nL L' := by
  obtain ⟨a1, a2, a3, a4⟩ := zi_set_spec hs
  refine ⟨a1.trans h.1, hL.1, hL.2.1, fun j u hu => ?_⟩
  by_cases hj : j = i
  · subst hj
    rw [a3] at hu
    cases hu
    exact ⟨hL.2.2 _ List.mem_cons_self, hv⟩
  · obtain ⟨b1, b2⟩ := a4 j u hj hu
    refine ⟨hL.2.2 (j, zi_v u) (List.mem_cons_of_mem _ (List.mem_filter.mpr ⟨zi_ll_mem.mpr ⟨u, b1, rfl⟩, ?_⟩)), (h.2.2.2 j u b1).2⟩
    have h1 : (j == i) = false := by simpa using hj
    show (!(j == i) && !(j + 1 == i && (zi_v u).category == 2)) = true
    rw [h1]
    by_cases h2 : j + 1 = i
    · have h3 : ¬ (zi_v u).category = 2 := fun q => b2 ⟨h2, zi_v_cat q⟩
      simp [h3]
    · simp [h2]
theorem zi_mask_get : ∀ {m : List Bool} {ls : zL} {i : Nat} {v : zV}, zi_get (zi_mask m ls) i = some v → zi_get ls i = some v ∧ m[i]? = some true
  | [], _, _, _, h => by simp [zi_mask] at h; cases h
  | _ :: _, [], _, _, h => by simp [zi_mask] at h; cases h
  | true :: m, w :: l, 0, v, h => ⟨h, rfl⟩
  | false :: m, w :: l, 0, v, h => by cases h
  | b :: m, w :: l, i + 1, v, h => zi_mask_get (m := m) (ls := l) h
theorem zi_mask_len : ∀ {m : List Bool} {ls : zL}, m.length = ls.length → (zi_mask m ls).length = ls.length
  | [], [], _ => rfl
  | [], _ :: _, h => by cases h
  | _ :: _, [], h => by cases h
  | b :: m, w :: l, h => by
    simp only [zi_mask, List.length_cons] at h ⊢
    rw [zi_mask_len (by omega)]
theorem zi_lr_mask {ls : zL} {nL : Nat} {L : Array Slot} {m : List Bool} (h : zi_lr ls nL L) (hm : m.length = ls.length) : zi_lr (zi_mask m ls) nL L :=
  ⟨(zi_mask_len hm).trans h.1, h.2.1, h.2.2.1, fun i v hv => h.2.2.2 i v (zi_mask_get hv).1⟩
theorem zi_lr_set2 {ls l1 l2 : zL} {nL i : Nat} {x : Int} {L L' : Array Slot} (h : zi_lr ls nL L) (h1 : zi_set ls (i + 1) (.inl 0) = some l1) (h2 : zi_set l1 i (.inr (.inl x)) = some l2) (hv : zi_in (.inr (.inl x))) (hL : lv_has L' nL ((i, Value.long (Int64.ofInt x)) :: (zi_ll ls).filter (fun q => !(q.1 == i) && (!(q.1 == i + 1) && !(q.1 + 1 == i && q.2.category == 2))))) : zi_lr (zi_mask ((List.range l2.length).map fun k => !(Nat.beq k (i + 1))) l2) nL L' := by
  obtain ⟨a1, a2, a3, a4⟩ := zi_set_spec h1
  obtain ⟨c1, c2, c3, c4⟩ := zi_set_spec h2
  refine ⟨(zi_mask_len (by simp)).trans (c1.trans (a1.trans h.1)), hL.1, hL.2.1, fun j u hu => ?_⟩
  obtain ⟨e1, e2⟩ := zi_mask_get hu
  have hj1 : j ≠ i + 1 := by
    intro q
    subst q
    simp at e2
    obtain ⟨z, z1, z2⟩ := e2
    obtain ⟨z0, z3⟩ := List.getElem?_eq_some_iff.mp z1
    simp at z3
    rw [← z3] at z2
    simp at z2
  by_cases hj : j = i
  · subst hj
    rw [c3] at e1
    cases e1
    exact ⟨hL.2.2 _ List.mem_cons_self, hv⟩
  · obtain ⟨b1, b2⟩ := c4 j u hj e1
    obtain ⟨d1, d2⟩ := a4 j u hj1 b1
    refine ⟨hL.2.2 (j, zi_v u) (List.mem_cons_of_mem _ (List.mem_filter.mpr ⟨zi_ll_mem.mpr ⟨u, d1, rfl⟩, ?_⟩)), (h.2.2.2 j u d1).2⟩
    have g1 : (j == i) = false := by simpa using hj
    have g2 : (j == i + 1) = false := by simpa using hj1
    show (!(j == i) && (!(j == i + 1) && !(j + 1 == i && (zi_v u).category == 2))) = true
    rw [g1, g2]
    by_cases h2 : j + 1 = i
    · have h3 : ¬ (zi_v u).category = 2 := fun q => b2 ⟨h2, zi_v_cat q⟩
      simp [h3]
    · simp [h2]
/-! the memory in the heap -/
def zi_ak (k : Nat) : Option FieldType := match k with
  | 12 => some .int
  | 13 => some .boolean
  | 14 => some (.object "FoldedRows$Frame")
  | 15 => some (.object "FoldedRows$Image")
  | 16 => some (.object "FoldedRows$LaidLine")
  | 17 => some (.object "FoldedRows$Sheet")
  | 19 => some .long
  | _ => none
def zi_et (k : Nat) : Nat := match k with
  | 12 => 1
  | 13 => 1
  | 18 => 1
  | 19 => 4
  | _ => 3
def zi_ao (s : State) (D : va_G) (base : Nat) (σ : zM) (H : Heap) (a : Nat) (x : Int) : Prop :=
  ∀ q, vwCl[(σ.1 x).1]? = some q → base ≤ a ∧ t_OB a (D.1 (σ.1 x).1) q.2.2 (D.2 (σ.1 x).1) H (fun i => zi_v (zi_mkv (zi_ft (σ.1 x).1 i) (zi_rd σ (zi_ft (σ.1 x).1 i) x i))) ∧ ∀ i, i < q.2.2 → zi_in (zi_mkv (zi_ft (σ.1 x).1 i) (zi_rd σ (zi_ft (σ.1 x).1 i) x i))
def zi_aa (s : State) (base : Nat) (σ : zM) (H : Heap) (a : Nat) (x : Int) : Prop :=
  ∀ ty, zi_ak (σ.1 x).1 = some ty → base ≤ a ∧ zi_ir (σ.1 x).2 ∧ 0 ≤ (σ.1 x).2 ∧ (∃ cA, ArrOfT s cA ty ∧ va_RA s cA ty ∧ H[a]? = some (arrV cA (σ.1 x).2.toNat (fun j => zi_v (zi_mkv (zi_et (σ.1 x).1) (zi_rd σ (zi_et (σ.1 x).1) x j))))) ∧ ∀ j : Nat, j < (σ.1 x).2.toNat → zi_in (zi_mkv (zi_et (σ.1 x).1) (zi_rd σ (zi_et (σ.1 x).1) x j))
def zi_as (s : State) (σ : zM) (H : Heap) (a : Nat) (x : Int) : Prop :=
  (σ.1 x).1 = 18 → zi_ir (σ.1 x).2 ∧ 0 ≤ (σ.1 x).2 ∧ (∃ cell : Cell, H[a]? = some cell ∧ s.isArrayOf cell .int ∧ cell.vm ≠ .unknown ∧ cell.slots.size = (σ.1 x).2.toNat ∧ ∀ j : Nat, j < (σ.1 x).2.toNat → cell.slots[j]? = some (.int (Int32.ofInt (σ.2.1 x j)))) ∧ ∀ j : Nat, j < (σ.1 x).2.toNat → zi_ir (σ.2.1 x j)
def zi_W (s : State) (D : va_G) (base : Nat) (σ : zM) (H : Heap) : Prop :=
  (H.size : Int) + 1 = σ.2.2.2.1 ∧ base ≤ H.size ∧ (∀ x : Int, (σ.1 x).1 ≠ 99 → 1 ≤ x ∧ x < σ.2.2.2.1) ∧ ∀ a : Nat, zi_ao s D base σ H a ((a : Int) + 1) ∧ zi_aa s base σ H a ((a : Int) + 1) ∧ zi_as s σ H a ((a : Int) + 1)
theorem zi_W.moved {u U : State} {D : va_G} {base : Nat} {σ : zM} {H : Heap} (hvm : u.vm.Alike U.vm) (h : zi_W u D base σ H) : zi_W U D base σ H := by
  refine ⟨h.1, h.2.1, h.2.2.1, fun a => ?_⟩
  obtain ⟨h1, h2, h3⟩ := h.2.2.2 a
  refine ⟨h1, fun ty hty => ?_, fun hk => ?_⟩
  · obtain ⟨b1, b2, b3, ⟨cA, c1, c2, c3⟩, b4⟩ := h2 ty hty
    exact ⟨b1, b2, b3, ⟨cA, arrOfT_moved hvm c1, c2.moved hvm, c3⟩, b4⟩
  · obtain ⟨b1, b2, ⟨cell, c1, c2, c3⟩, b4⟩ := h3 hk
    exact ⟨b1, b2, ⟨cell, c1, State.isArrayOf_alike hvm c2, c3⟩, b4⟩
theorem zi_kind_pos {s : State} {D : va_G} {base : Nat} {σ : zM} {H : Heap} (h : zi_W s D base σ H) {x : Int} {k : Nat} (hk : (σ.1 x).1 = k) (h9 : k ≠ 99) : ∃ a : Nat, x = (a : Int) + 1 ∧ zi_ro x = some a := by
  have := (h.2.2.1 x (by rw [hk]; exact h9)).1
  refine ⟨x.toNat - 1, by omega, ?_⟩
  unfold zi_ro
  rw [if_neg (by omega)]
theorem zi_vr {x : Int} {a : Nat} (h : zi_ro x = some a) : zi_v (.inr (.inr x)) = .ref a := by
  show va_rf (zi_ro x) = _
  rw [h]; rfl
theorem zi_up_ne {M : Int → Int → Int} {a k v a' k' : Int} (h : a' ≠ a) : zi_up M a k v a' k' = M a' k' := by
  unfold zi_up
  rw [if_neg (fun q => h q.1)]
theorem zi_up_nk {M : Int → Int → Int} {a k v a' k' : Int} (h : k' ≠ k) : zi_up M a k v a' k' = M a' k' := by
  unfold zi_up
  rw [if_neg (fun q => h q.2)]
theorem zi_up_eq {M : Int → Int → Int} {a k v : Int} : zi_up M a k v a k = v := by
  unfold zi_up
  rw [if_pos ⟨rfl, rfl⟩]
/-- cells elsewhere stay -/
theorem zi_else {s : State} {D : va_G} {base : Nat} {σ σ' : zM} {H H1 : Heap} {a : Nat} {x : Int} (hs : σ'.1 x = σ.1 x) (hm : ∀ j, σ'.2.1 x j = σ.2.1 x j) (hr : ∀ j, σ'.2.2.1 x j = σ.2.2.1 x j) (hH : H1[a]? = H[a]?) (h : zi_ao s D base σ H a x ∧ zi_aa s base σ H a x ∧ zi_as s σ H a x) : zi_ao s D base σ' H1 a x ∧ zi_aa s base σ' H1 a x ∧ zi_as s σ' H1 a x := by
  obtain ⟨h1, h2, h3⟩ := h
  have hd : ∀ t j, zi_rd σ' t x j = zi_rd σ t x j := by
    intro t j
    unfold zi_rd
    split
    · exact hr j
    · exact hm j
  unfold zi_ao zi_aa zi_as
  simp only [hs, hm, hd, hH]
  refine ⟨fun q hq => ?_, h2, h3⟩
  obtain ⟨a1, a2, a3⟩ := h1 q hq
  exact ⟨a1, a2.kept hH, a3⟩
/-- σ' is σ but at x -/
def zi_only (σ σ' : zM) (x : Int) : Prop := σ'.1 = σ.1 ∧ σ'.2.2.2 = σ.2.2.2 ∧ ∀ y j, y ≠ x → σ'.2.1 y j = σ.2.1 y j ∧ σ'.2.2.1 y j = σ.2.2.1 y j
theorem zi_only_wr {σ : zM} {x k v : Int} : zi_only σ (zi_wr σ x k v) x := ⟨rfl, rfl, fun y j hy => ⟨zi_up_ne hy, rfl⟩⟩
theorem zi_only_wq {σ : zM} {x k v : Int} : zi_only σ (zi_wq σ x k v) x := ⟨rfl, rfl, fun y j hy => ⟨rfl, zi_up_ne hy⟩⟩
/-- what is written by its kind -/
def zi_wt (σ : zM) (t : Nat) (x k v : Int) : zM := match t with
  | 3 => zi_wq σ x k v
  | _ => zi_wr σ x k v
theorem zi_only_wt {σ : zM} {t : Nat} {x k v : Int} : zi_only σ (zi_wt σ t x k v) x := by
  unfold zi_wt
  split
  · exact zi_only_wq
  · exact zi_only_wr
theorem zi_rd_wt {σ : zM} {t : Nat} {x k v : Int} : zi_rd (zi_wt σ t x k v) t x k = v := by
  by_cases h : t = 3
  · subst h
    exact zi_up_eq
  · unfold zi_wt zi_rd
    split
    · exact absurd rfl h
    · split
      · exact absurd rfl h
      · exact zi_up_eq
theorem zi_rd_wt_ne {σ : zM} {t t' : Nat} {x k v j : Int} (h : j ≠ k) : zi_rd (zi_wt σ t x k v) t' x j = zi_rd σ t' x j := by
  unfold zi_wt zi_rd
  split <;> split <;> first | exact zi_up_nk h | rfl
/-- a field is written -/
theorem zi_W_obj {s : State} {D : va_G} {base : Nat} {σ : zM} {H H1 : Heap} {a : Nat} {x : Int} (h : zi_W s D base σ H) (hx : x = (a : Int) + 1) {q : vw_C} (hq : vwCl[(σ.1 x).1]? = some q) {k : Nat} (hk : k < q.2.2) {v : Int} (hv : zi_in (zi_mkv (zi_ft (σ.1 x).1 k) v))
    (hO : t_OB a (D.1 (σ.1 x).1) q.2.2 (D.2 (σ.1 x).1) H1 (updV (fun i => zi_v (zi_mkv (zi_ft (σ.1 x).1 i) (zi_rd σ (zi_ft (σ.1 x).1 i) x i))) k (zi_v (zi_mkv (zi_ft (σ.1 x).1 k) v)))) (hz : H1.size = H.size) (ho : ∀ b, b ≠ a → H1[b]? = H[b]?) : zi_W s D base (zi_wt σ (zi_ft (σ.1 x).1 k) x k v) H1 := by
  obtain ⟨o1, o2, o3⟩ := zi_only_wt (σ := σ) (t := zi_ft (σ.1 x).1 k) (x := x) (k := k) (v := v)
  refine ⟨by rw [hz, o2]; exact h.1, by rw [hz]; exact h.2.1, by rw [o1, o2]; exact h.2.2.1, fun b => ?_⟩
  by_cases hb : b = a
  · subst hb
    rw [← hx]
    obtain ⟨h1, h2, h3⟩ := h.2.2.2 b
    rw [← hx] at h1
    have hlt : (σ.1 x).1 < 11 := by
      have := (List.getElem?_eq_some_iff.mp hq).1
      simpa [vwCl] using this
    refine ⟨fun q' hq' => ?_, fun ty hty => ?_, fun h18 => ?_⟩
    · rw [o1] at hq' ⊢
      have e : q' = q := Option.some.inj (hq'.symm.trans hq)
      subst e
      obtain ⟨a1, a2, a3⟩ := h1 q' hq
      refine ⟨a1, hO.to (fun j hj => ?_), fun j hj => ?_⟩
      · unfold updV
        by_cases hjk : j = k
        · subst hjk; rw [if_pos rfl, zi_rd_wt]
        · rw [if_neg hjk, zi_rd_wt_ne (by omega)]
      · by_cases hjk : j = k
        · subst hjk; rw [zi_rd_wt]; exact hv
        · rw [zi_rd_wt_ne (by omega)]; exact a3 j hj
    · exfalso
      rw [o1] at hty
      unfold zi_ak at hty
      split at hty <;> first | omega | cases hty
    · exfalso
      rw [o1] at h18
      omega
  · exact zi_else (σ := σ) (by rw [o1]) (fun j => (o3 _ j (by omega)).1) (fun j => (o3 _ j (by omega)).2) (ho b hb) (h.2.2.2 b)
/-- a cell of a row is written -/
theorem zi_W_arr {s : State} {D : va_G} {base : Nat} {σ σ' : zM} {H H1 : Heap} {a : Nat} {x : Int} (h : zi_W s D base σ H) (hx : x = (a : Int) + 1) {ty : FieldType} (hty : zi_ak (σ.1 x).1 = some ty) (hM : zi_only σ σ' x) (hv : ∀ j : Nat, j < (σ.1 x).2.toNat → zi_in (zi_mkv (zi_et (σ.1 x).1) (zi_rd σ' (zi_et (σ.1 x).1) x j)))
    (hO : ∀ cA, H[a]? = some (arrV cA (σ.1 x).2.toNat (fun j => zi_v (zi_mkv (zi_et (σ.1 x).1) (zi_rd σ (zi_et (σ.1 x).1) x j)))) → H1[a]? = some (arrV cA (σ.1 x).2.toNat (fun j => zi_v (zi_mkv (zi_et (σ.1 x).1) (zi_rd σ' (zi_et (σ.1 x).1) x j))))) (hz : H1.size = H.size) (ho : ∀ b, b ≠ a → H1[b]? = H[b]?) : zi_W s D base σ' H1 := by
  obtain ⟨o1, o2, o3⟩ := hM
  refine ⟨by rw [hz, o2]; exact h.1, by rw [hz]; exact h.2.1, by rw [o1, o2]; exact h.2.2.1, fun b => ?_⟩
  by_cases hb : b = a
  · subst hb
    rw [← hx]
    obtain ⟨h1, h2, h3⟩ := h.2.2.2 b
    rw [← hx] at h2
    have hk : (12 ≤ (σ.1 x).1 ∧ (σ.1 x).1 ≤ 17) ∨ (σ.1 x).1 = 19 := by
      unfold zi_ak at hty
      split at hty <;> first | omega | cases hty
    refine ⟨fun q' hq' => ?_, fun ty' hty' => ?_, fun h18 => ?_⟩
    · exfalso
      rw [o1] at hq'
      have := (List.getElem?_eq_some_iff.mp hq').1
      simp [vwCl] at this
      omega
    · rw [o1] at hty' ⊢
      have e : ty' = ty := Option.some.inj (hty'.symm.trans hty)
      subst e
      obtain ⟨b1, b2, b3, ⟨cA, c1, c2, c3⟩, b4⟩ := h2 ty' hty
      exact ⟨b1, b2, b3, ⟨cA, c1, c2, hO cA c3⟩, hv⟩
    · exfalso
      rw [o1] at h18
      omega
  · exact zi_else (σ := σ) (by rw [o1]) (fun j => (o3 _ j (by omega)).1) (fun j => (o3 _ j (by omega)).2) (ho b hb) (h.2.2.2 b)
/-- a new cell -/
theorem zi_W_new {s : State} {D : va_G} {base : Nat} {σ : zM} {H H1 : Heap} {k : Nat} {n : Int} {sl : Nat} (h : zi_W s D base σ H) (hk : k ≠ 18) (hz : H1.size = H.size + 1) (ho : ∀ b, b < H.size → H1[b]? = H[b]?)
    (hO : ∀ q, vwCl[k]? = some q → t_OB H.size (D.1 k) q.2.2 (D.2 k) H1 (fun i => zi_v (zi_mkv (zi_ft k i) 0)))
    (hA : ∀ ty, zi_ak k = some ty → zi_ir n ∧ 0 ≤ n ∧ ∃ cA, ArrOfT s cA ty ∧ va_RA s cA ty ∧ H1[H.size]? = some (arrV cA n.toNat (fun _ => zi_v (zi_mkv (zi_et k) 0)))) : zi_W s D base (zi_new σ k n sl) H1 := by
  have hin0 : ∀ t, zi_in (zi_mkv t 0) := by
    intro t
    unfold zi_mkv
    split
    · exact Int.le_refl 0
    · show (-9223372036854775808 : Int) ≤ 0 ∧ (0 : Int) < 9223372036854775808
      omega
    · exact zi_ir0
  have htop := h.1
  have e1 : (zi_new σ k n sl).2.2.2.1 = σ.2.2.2.1 + 1 := rfl
  refine ⟨by rw [hz, e1]; omega, by rw [hz]; exact Nat.le_succ_of_le h.2.1, fun x hx => ?_, fun b => ?_⟩
  · rw [e1]
    by_cases hxt : x = σ.2.2.2.1
    · subst hxt; omega
    · have e2 : (zi_new σ k n sl).1 x = σ.1 x := if_neg hxt
      rw [e2] at hx
      have := h.2.2.1 x hx
      omega
  · by_cases hb : (b : Int) + 1 = σ.2.2.2.1
    · have hbs : b = H.size := by omega
      subst hbs
      have e2 : (zi_new σ k n sl).1 ((H.size : Int) + 1) = (k, n) := if_pos hb
      have e3 : ∀ t j, zi_rd (zi_new σ k n sl) t ((H.size : Int) + 1) j = 0 := by
        intro t j
        unfold zi_rd
        split
        · exact if_pos hb
        · exact if_pos hb
      unfold zi_ao zi_aa zi_as
      simp only [e2, e3]
      refine ⟨fun q hq => ⟨h.2.1, hO q hq, fun i _ => hin0 _⟩, fun ty hty => ?_, fun h18 => absurd h18 hk⟩
      obtain ⟨a1, a2, a3⟩ := hA ty hty
      exact ⟨h.2.1, a1, a2, a3, fun j _ => hin0 _⟩
    · by_cases hlt : b < H.size
      · exact zi_else (σ := σ) (if_neg hb) (fun j => if_neg hb) (fun j => if_neg hb) (ho b hlt) (h.2.2.2 b)
      · have e2 : (zi_new σ k n sl).1 ((b : Int) + 1) = σ.1 ((b : Int) + 1) := if_neg hb
        have h9 : (σ.1 ((b : Int) + 1)).1 = 99 := by
          by_cases h9 : (σ.1 ((b : Int) + 1)).1 = 99
          · exact h9
          · have := h.2.2.1 _ h9; omega
        unfold zi_ao zi_aa zi_as
        simp only [e2, h9]
        refine ⟨fun q hq => by simp [vwCl] at hq, fun ty hty => by simp [zi_ak] at hty, fun h18 => by omega⟩
end
section
/-! instructions on the heap, out of the memory's picture -/
abbrev zi_rec : Type := MethodName × ByteArray × Option FieldType × Nat × zT
def zi_nt (c : Jvm.Cond) : Prop := c ∈ zi_tb
/-- what the words say of a place of a class's pool: (place, tag, a, b) -/
def zi_pm (recs : List zi_rec) (own : String) (e : Nat × Nat × Nat × Int) : Prop := match e.2.1 with
  | 0 => ∃ (q : vw_C) (k : Nat), vwCl[e.2.2.1]? = some q ∧ e.2.2.2 = (k : Int) ∧ k < q.2.2 ∧ Jvm.Cond.fieldLink own e.1 (q.2.1 k).1 (q.2.1 k).2.1 (q.2.1 k).2.2.1 ∈ zi_tb
  | 1 => ∃ (q : vw_C) (k : Nat) (host : String), vwCl[e.2.2.1]? = some q ∧ e.2.2.2 = (k : Int) ∧ k < q.2.2 ∧ Jvm.Cond.fieldLinkNest own e.1 (q.2.1 k).1 (q.2.1 k).2.1 (q.2.1 k).2.2.1 host ∈ lw_tbl
  | 2 => ∃ r : zi_rec, recs[e.2.2.1]? = some r ∧ Jvm.Cond.methodLink own e.1 r.1 ∈ zi_tb ∧ Jvm.Cond.static r.1 ∈ zi_tb
  | 3 => ∃ (r : zi_rec) (host : String), recs[e.2.2.1]? = some r ∧ Jvm.Cond.methodLinkNest own e.1 r.1 host ∈ lw_tbl ∧ Jvm.Cond.static r.1 ∈ zi_tb
  | 4 => ∃ (r : zi_rec) (q : vw_C), recs[e.2.2.1]? = some r ∧ vwCl[e.2.2.2.toNat]? = some q ∧ 0 ≤ e.2.2.2 ∧ r.1.cls = q.1 ∧ Jvm.Cond.methodLink own e.1 r.1 ∈ zi_tb ∧ Jvm.Cond.instanceMethod r.1 ∈ zi_tb ∧ Jvm.Cond.selects q.1 r.1 r.1 ∈ zi_tb
  | 5 => ∃ (r : zi_rec) (q : vw_C) (host : String), recs[e.2.2.1]? = some r ∧ vwCl[e.2.2.2.toNat]? = some q ∧ 0 ≤ e.2.2.2 ∧ r.1.cls = q.1 ∧ Jvm.Cond.methodLinkNest own e.1 r.1 host ∈ lw_tbl ∧ Jvm.Cond.instanceMethod r.1 ∈ zi_tb ∧ Jvm.Cond.selects q.1 r.1 r.1 ∈ zi_tb
  | 6 => ∃ r : zi_rec, recs[e.2.2.1]? = some r ∧ 0 ≤ e.2.2.2 ∧ e.2.2.2 < 11 ∧ r.1.name = "<init>" ∧ r.2.2.1 = none ∧ Jvm.Cond.methodLink own e.1 r.1 ∈ zi_tb ∧ Jvm.Cond.instanceMethod r.1 ∈ zi_tb
  | 7 => ∃ (r : zi_rec) (host : String), recs[e.2.2.1]? = some r ∧ 0 ≤ e.2.2.2 ∧ e.2.2.2 < 11 ∧ r.1.name = "<init>" ∧ r.2.2.1 = none ∧ Jvm.Cond.methodLinkNest own e.1 r.1 host ∈ lw_tbl ∧ Jvm.Cond.instanceMethod r.1 ∈ zi_tb
  | 8 => ∃ q : vw_C, vwCl[e.2.2.1]? = some q ∧ e.2.2.2 = (q.2.2 : Int) ∧ Jvm.Cond.classLink own e.1 q.1 ∈ zi_tb ∧ Jvm.Cond.instantiable q.1 q.2.2 ∈ zi_tb ∧ Jvm.Cond.initialized q.1 ∈ zi_tb
  | 9 => ∃ C : String, zi_ak e.2.2.1 = some (.object C) ∧ Jvm.Cond.classLink own e.1 C ∈ zi_tb ∧ Jvm.Cond.arrayOver (.object C) ∈ lw_tbl
  | 10 => Jvm.Cond.constant own e.1 (Int32.ofInt e.2.2.2) ∈ zi_tb ∧ zi_ir e.2.2.2
  | 11 => Jvm.Cond.constantLong own e.1 (Int64.ofInt e.2.2.2) ∈ zi_tb ∧ zi_in (.inr (.inl e.2.2.2))
  | 12 => 0 ≤ e.2.2.2 ∧ e.2.2.2 < 11 ∧ Jvm.Cond.methodLink own e.1 objectInit ∈ zi_tb ∧ Jvm.Cond.instanceMethod objectInit ∈ zi_tb ∧ Jvm.Cond.code objectInit ⟨#[0xb1]⟩ 1 none ∈ zi_tb
  | 13 => (e.2.2.1 = 1001 ∧ Jvm.Cond.methodLink own e.1 Lib.Math.max.name ∈ zi_tb ∧ Jvm.Cond.static Lib.Math.max.name ∈ zi_tb ∧ Jvm.Cond.initialized "java/lang/Math" ∈ zi_tb ∧ Jvm.Cond.code Lib.Math.max.name Lib.Math.max.code 2 (some .int) ∈ zi_tb) ∨
    (e.2.2.1 = 1002 ∧ Jvm.Cond.methodLink own e.1 Lib.Math.min.name ∈ zi_tb ∧ Jvm.Cond.static Lib.Math.min.name ∈ zi_tb ∧ Jvm.Cond.initialized "java/lang/Math" ∈ zi_tb ∧ Jvm.Cond.code Lib.Math.min.name Lib.Math.min.code 2 (some .int) ∈ zi_tb) ∨
    (e.2.2.1 = 1003 ∧ Jvm.Cond.methodLink own e.1 Lib.MathLoose.max_long.x ∈ zi_tb ∧ Jvm.Cond.static Lib.MathLoose.max_long.x ∈ zi_tb ∧ Jvm.Cond.initialized "java/lang/Math" ∈ zi_tb ∧ Jvm.Cond.code Lib.MathLoose.max_long.x Lib.MathLoose.max_long.code 4 (some .long) ∈ zi_tb) ∨
    (e.2.2.1 = 1004 ∧ Jvm.Cond.methodLink own e.1 Lib.MathLoose.min_long.x ∈ zi_tb ∧ Jvm.Cond.static Lib.MathLoose.min_long.x ∈ zi_tb ∧ Jvm.Cond.initialized "java/lang/Math" ∈ zi_tb ∧ Jvm.Cond.code Lib.MathLoose.min_long.x Lib.MathLoose.min_long.code 4 (some .long) ∈ zi_tb) ∨
    (e.2.2.1 = 1005 ∧ Jvm.Cond.methodLink own e.1 arraycopyName ∈ zi_tb ∧ Jvm.Cond.native arraycopyName ∈ zi_tb ∧ Jvm.Cond.static arraycopyName ∈ zi_tb ∧ Jvm.Cond.initialized "java/lang/System" ∈ zi_tb)
  | _ => False
/-- words that are not told but kept: nest links, rows over a class -/
def zi_isN : Jvm.Cond → Bool
  | .fieldLinkNest _ _ _ _ _ _ => true
  | .methodLinkNest _ _ _ _ => true
  | .arrayOver (.object _) => true
  | _ => false
def zi_nw (s : State) : Prop := ∀ w ∈ lw_tbl, zi_isN w = true → w.before #[] s = true
theorem zi_nw.moved {s U : State} (hW : s.WarmedH U.vm) (h : zi_nw s) : zi_nw U := by
  intro w hw hn
  have h1 := h w hw hn
  match w, hn with
  | .fieldLinkNest _ _ _ _ _ _, _ => exact va_Nw.warmF hW h1
  | .methodLinkNest _ _ _ _, _ => exact va_Nw.warmM hW h1
  | .arrayOver (.object C), _ => exact va_AO.moved hW.alike h1
def zi_cx (p : Program) (s : State) (m : MethodId) (args : Array Value) (meth : Method) (c : Code) (D : va_G) (cc : ByteArray) (nL : Nat) (own : String) (ini : Bool) : Prop :=
  p.tables.exec = Jvm.exec ∧ c.code = cc ∧ c.maxLocals = nL ∧ s.vm.findClass own = some m.cls ∧ (∀ w ∈ zi_tb, w.before args s = true) ∧ va_K D vwCl [] s ∧ zi_nw s ∧ (ini = true → meth.name = "<init>")
theorem zi_obj {s : State} {D : va_G} {base : Nat} {σ : zM} {H : Heap} (h : zi_W s D base σ H) {x : Int} {k : Nat} (hk : (σ.1 x).1 = k) {q : vw_C} (hq : vwCl[k]? = some q) : ∃ a : Nat, x = (a : Int) + 1 ∧ zi_ro x = some a ∧ base ≤ a ∧ t_OB a (D.1 k) q.2.2 (D.2 k) H (fun i => zi_v (zi_mkv (zi_ft k i) (zi_rd σ (zi_ft k i) x i))) ∧ ∀ i, i < q.2.2 → zi_in (zi_mkv (zi_ft k i) (zi_rd σ (zi_ft k i) x i)) := by
  have h9 : k ≠ 99 := by
    rintro rfl
    simp [vwCl] at hq
  obtain ⟨a, hx, hr⟩ := zi_kind_pos h hk h9
  obtain ⟨h1, -, -⟩ := h.2.2.2 a
  rw [← hx] at h1
  subst hk
  obtain ⟨b1, b2, b3⟩ := h1 q hq
  exact ⟨a, hx, hr, b1, b2, b3⟩
section ZH
variable {p : Program} {l : Launch} {e : Env} {R : Room} {s : State} {m : MethodId} {args : Array Value} {below : List Frame} {meth : Method} {c : Code} {H : Heap} {locs : List Loc} {cells slots : Nat} {Q : State → Prop} {D : va_G} {cc : ByteArray} {nL : Nat} {own : String} {ini : Bool} {base : Nat} {σ : zM} {recs : List zi_rec} {pc : Nat} {L : Array Slot} {rest : List Value}
theorem zi_getf (C : zi_cx p s m args meth c D cc nL own ini) (hW : zi_W s D base σ H) {x : Int} {a : Nat} {b : Int} {idx : Nat} (hp : zi_pm recs own (idx, 0, a, b) ∨ zi_pm recs own (idx, 1, a, b)) (hk : (σ.1 x).1 = a) (hd : decode cc pc = .ok (.getfield idx, 3))
    (kk : zi_in (zi_mkv (zi_ft a b.toNat) (zi_rd σ (zi_ft a b.toNat) x b)) → W p l e R s m args below meth c H locs cells slots Q (F0 m (pc + 3) L (zi_v (zi_mkv (zi_ft a b.toNat) (zi_rd σ (zi_ft a b.toNat) x b)) :: rest))) : W p l e R s m args below meth c H locs cells slots Q (F0 m pc L (zi_v (.inr (.inr x)) :: rest)) := by
  obtain ⟨hx, hb, -, hown, hts, hK, hnw, -⟩ := C
  rcases hp with ⟨q, k, hq, rfl, hkN, hw⟩ | ⟨q, k, host, hq, rfl, hkN, hw⟩
  all_goals
    obtain ⟨ad, ex, er, -, ⟨cell, q1, q2, q3, q4⟩, hin⟩ := zi_obj hW hk hq
    rw [zi_vr er]
    obtain ⟨hS, hfc, kC, hkC, hkind⟩ := hK.1 a _ hq
    obtain ⟨cf, kf, fi, f, hi, hsl⟩ := hS k hkN
    have hst := (u_facts hfc hkC (u_lays hts (zi_cls hq).1 hkN) hi).1
    have hv : cell.slots[f.slot]? = some (zi_v (zi_mkv (zi_ft a k) (zi_rd σ (zi_ft a k) x k))) := by rw [hsl]; exact q4 k hkN
  · exact W.getf hx hb hown (hts _ hw) hi hst q1 (by rw [q3]; exact fun h => by cases h) hv rfl rfl hd (kk (hin k hkN))
  · exact va_Wgetf hx hb hown (va_Nw.use rfl (hnw _ hw rfl)) hi hst q1 (by rw [q3]; exact fun h => by cases h) hv rfl rfl hd (kk (hin k hkN))
theorem zi_fit {t : Nat} {ty : FieldType} (ht : zi_tk t ty) {v : Int} (h2 : t = 2 → v = 0 ∨ v = 1) : narrow ty (zi_v (zi_mkv t v)) = zi_v (zi_mkv t v) ∧ fits ty (zi_v (zi_mkv t v)) = true := by
  match t, ht with
  | 1, h => cases h; exact ⟨rfl, rfl⟩
  | 2, h =>
    cases h
    rcases h2 rfl with rfl | rfl <;> exact ⟨by decide, by decide⟩
  | 3, h =>
    show narrow ty (va_rf (zi_ro v)) = va_rf (zi_ro v) ∧ fits ty (va_rf (zi_ro v)) = true
    rcases h with ⟨C, rfl⟩ | ⟨t, rfl⟩ <;> cases zi_ro v <;> exact ⟨rfl, rfl⟩
theorem zi_putf (C : zi_cx p s m args meth c D cc nL own ini) (hW : zi_W s D base σ H) (hlo : ∀ q ∈ locs, base ≤ q.base) {x v : Int} {a : Nat} {b : Int} {idx : Nat} (hp : zi_pm recs own (idx, 0, a, b) ∨ zi_pm recs own (idx, 1, a, b)) (hf : ∀ q, vwCl[a]? = some q → (q.2.1 b.toNat).2.2.2 = false ∨ (ini = true ∧ q.1 = own ∧ zi_pm recs own (idx, 0, a, b))) (hk : (σ.1 x).1 = a) (h2 : zi_ft a b.toNat = 2 → v = 0 ∨ v = 1) (hv : zi_in (zi_mkv (zi_ft a b.toNat) v)) (hd : decode cc pc = .ok (.putfield idx, 3))
    (kk : ∀ (H1 : Heap) (locs1 : List Loc), zi_W s D base (zi_wt σ (zi_ft a b.toNat) x b v) H1 → (∀ q ∈ locs1, base ≤ q.base) → W p l e R s m args below meth c H1 locs1 cells slots Q (F0 m (pc + 3) L rest)) : W p l e R s m args below meth c H locs cells slots Q (F0 m pc L (zi_v (zi_mkv (zi_ft a b.toNat) v) :: zi_v (.inr (.inr x)) :: rest)) := by
  have C0 := C
  obtain ⟨hx, hb, -, hown, hts, hK, hnw, hini⟩ := C
  have key : ∀ (q : vw_C) (k : Nat), vwCl[a]? = some q → k < q.2.2 → (b = (k : Int)) → (q.2.1 k).2.2.2 = true → ∃ w, w = Jvm.Cond.fieldLink own idx (q.2.1 k).1 (q.2.1 k).2.1 (q.2.1 k).2.2.1 ∧ w ∈ zi_tb ∧ ini = true ∧ q.1 = own := by
    intro q k hq hkN hbk hfin
    subst hbk
    rcases hf q hq with h | ⟨h1, h9, q', k', hq', hk', -, hw⟩
    · exact absurd (hfin.symm.trans h) (by decide)
    · have e1 : q' = q := Option.some.inj (hq'.symm.trans hq)
      subst e1
      have e2 : k' = k := by
        change (k : Int) = (k' : Int) at hk'
        omega
      subst e2
      exact ⟨_, rfl, hw, h1, h9⟩
  rcases hp with ⟨q, k, hq, hbk, hkN, hw⟩ | ⟨q, k, host, hq, hbk, hkN, hw⟩
  all_goals
    change b = (k : Int) at hbk
    subst hbk
    obtain ⟨ad, ex, er, hbase, ⟨cell, q1, q2, q3, q4⟩, hin⟩ := zi_obj hW hk hq
    rw [zi_vr er]
    obtain ⟨hin1, ty, hty, hnm, htk, hdecl⟩ := zi_cls hq
    have hap := va_apart (own := own) hts hin1 ty hty hnm hK hq
    obtain ⟨hS, hfc, kC, hkC, hkind⟩ := hK.1 a _ hq
    obtain ⟨cf, kf, fi, f, hi, hsl⟩ := hS k hkN
    have hst := (u_facts hfc hkC (u_lays hts hin1 hkN) hi).1
    obtain ⟨hn, hfit⟩ := zi_fit (htk k hkN) h2
    have hlt : f.slot < cell.slots.size := by rw [hsl]; exact k2_hasslot (q4 k hkN)
    have hend : ∀ H' : Heap, H'[ad]? = some (cell.setSlot f.slot (zi_v (zi_mkv (zi_ft a k) v))) → H'.size = H.size → (∀ q, q ≠ ad → H'[q]? = H[q]?) → W p l e R s m args below meth c H' (locs ++ [⟨ad, f.slot⟩]) cells slots Q (F0 m (pc + 3) L rest) := by
      intro H' e1 e2 e3
      refine kk H' _ ?_ ?_
      · subst hk
        refine zi_W_obj hW ex hq hkN hv ⟨_, e1, q2, q3, ?_⟩ e2 e3
        rw [hsl]
        exact t_set q4 hap hkN _
      · intro z hz
        rcases List.mem_append.mp hz with h | h
        · exact hlo z h
        · rw [List.mem_singleton.mp h]; exact hbase
  · by_cases hfin : (q.2.1 k).2.2.2 = true
    · obtain ⟨w, rfl, hw2, h1, h2⟩ := key q k hq hkN rfl hfin
      have hlay := hts _ (hin1 _ (u_in_lay hkN))
      unfold u_lay at hlay
      rw [if_pos hfin] at hlay
      have hcf : m.cls = cf := by
        obtain ⟨_, _, c', _, _, _, -, -, hf', -, -, -, hown2, -⟩ := Cond.laysFinal_spec hlay
        have e1 : c' = cf := by have := hi.symm.trans hf'; simp at this; exact this.1.symm
        rw [hdecl k hkN, h2] at hown2
        rw [← e1]; exact Option.some.inj (hown.symm.trans hown2)
      have h6 := u_fits hfc hkC hkind (Or.inr hlay) hi (hty k hkN) hn hfit
      exact W.putFinK hx hb hown (hts _ hw) hi hst hcf (hini h1) (by rw [q2]; exact h6) q1 q3 hlt rfl rfl hd hend
    · have hlay := hts _ (hin1 _ (u_in_lay hkN))
      unfold u_lay at hlay
      rw [if_neg hfin] at hlay
      have h6 := u_store hfc hkC hkind hlay hi (hty k hkN) hn hfit
      exact W.putK hx hb (f := f) ⟨hown, hts _ hw, ⟨_, _, _, hi⟩, hst⟩ (by rw [q2]; exact h6) q1 q3 hlt rfl rfl hd hend
  · by_cases hfin : (q.2.1 k).2.2.2 = true
    · obtain ⟨w, rfl, hw2, h1, h2⟩ := key q k hq hkN rfl hfin
      have hlay := hts _ (hin1 _ (u_in_lay hkN))
      unfold u_lay at hlay
      rw [if_pos hfin] at hlay
      have hcf : m.cls = cf := by
        obtain ⟨_, _, c', _, _, _, -, -, hf', -, -, -, hown2, -⟩ := Cond.laysFinal_spec hlay
        have e1 : c' = cf := by have := hi.symm.trans hf'; simp at this; exact this.1.symm
        rw [hdecl k hkN, h2] at hown2
        rw [← e1]; exact Option.some.inj (hown.symm.trans hown2)
      have h6 := u_fits hfc hkC hkind (Or.inr hlay) hi (hty k hkN) hn hfit
      exact W.putFinK hx hb hown (hts _ hw2) hi hst hcf (hini h1) (by rw [q2]; exact h6) q1 q3 hlt rfl rfl hd hend
    · have hlay := hts _ (hin1 _ (u_in_lay hkN))
      unfold u_lay at hlay
      rw [if_neg hfin] at hlay
      have h6 := u_store hfc hkC hkind hlay hi (hty k hkN) hn hfit
      exact va_WputK hx hb (f := f) hown (va_Nw.use rfl (hnw _ hw rfl)) hi hst (by rw [q2]; exact h6) q1 q3 hlt rfl rfl hd hend
/-- a row of the memory -/
theorem zi_arr (hW : zi_W s D base σ H) {x : Int} {k : Nat} (hk : (σ.1 x).1 = k) {ty : FieldType} (ht : zi_ak k = some ty) : ∃ a : Nat, x = (a : Int) + 1 ∧ zi_ro x = some a ∧ base ≤ a ∧ zi_ir (σ.1 x).2 ∧ 0 ≤ (σ.1 x).2 ∧ (∃ cA, ArrOfT s cA ty ∧ va_RA s cA ty ∧ H[a]? = some (arrV cA (σ.1 x).2.toNat (fun j => zi_v (zi_mkv (zi_et k) (zi_rd σ (zi_et k) x j))))) ∧ ∀ j : Nat, j < (σ.1 x).2.toNat → zi_in (zi_mkv (zi_et k) (zi_rd σ (zi_et k) x j)) := by
  have h9 : k ≠ 99 := by
    rintro rfl
    simp [zi_ak] at ht
  obtain ⟨a, hx, hr⟩ := zi_kind_pos hW hk h9
  obtain ⟨-, h1, -⟩ := hW.2.2.2 a
  rw [← hx] at h1
  subst hk
  obtain ⟨b1, b2, b3, b4, b5⟩ := h1 ty ht
  exact ⟨a, hx, hr, b1, b2, b3, b4, b5⟩
theorem zi_scr (hW : zi_W s D base σ H) {x : Int} (hk : (σ.1 x).1 = 18) : ∃ a : Nat, x = (a : Int) + 1 ∧ zi_ro x = some a ∧ zi_ir (σ.1 x).2 ∧ 0 ≤ (σ.1 x).2 ∧ (∃ cell : Cell, H[a]? = some cell ∧ s.isArrayOf cell .int ∧ cell.vm ≠ .unknown ∧ cell.slots.size = (σ.1 x).2.toNat ∧ ∀ j : Nat, j < (σ.1 x).2.toNat → cell.slots[j]? = some (.int (Int32.ofInt (σ.2.1 x j)))) ∧ ∀ j : Nat, j < (σ.1 x).2.toNat → zi_ir (σ.2.1 x j) := by
  obtain ⟨a, hx, hr⟩ := zi_kind_pos hW hk (by decide)
  obtain ⟨-, -, h1⟩ := hW.2.2.2 a
  rw [← hx] at h1
  obtain ⟨b1, b2, b3, b4⟩ := h1 hk
  exact ⟨a, hx, hr, b1, b2, b3, b4⟩
theorem zi_iald (C : zi_cx p s m args meth c D cc nL own ini) (hW : zi_W s D base σ H) {x j : Int} (hk : (σ.1 x).1 = 12 ∨ (σ.1 x).1 = 18) (hj : zi_ir j) (h0 : 0 ≤ j) (hn : j < (σ.1 x).2) (hd : decode cc pc = .ok (.iaload, 1))
    (kk : zi_ir (σ.2.1 x j) → W p l e R s m args below meth c H locs cells slots Q (F0 m (pc + 1) L (.int (Int32.ofInt (σ.2.1 x j)) :: rest))) : W p l e R s m args below meth c H locs cells slots Q (F0 m pc L (.int (Int32.ofInt j) :: zi_v (.inr (.inr x)) :: rest)) := by
  obtain ⟨hx, hb, -, hown, hts, hK, hnw, -⟩ := C
  obtain ⟨hin, hjj⟩ := zi_idx hj h0 hn
  have hlt : (Int32.ofInt j).toNatClampNeg < (σ.1 x).2.toNat := by omega
  rcases hk with hk | hk
  · obtain ⟨a, ex, er, -, -, -, ⟨cA, h1, h2, h3⟩, h4⟩ := zi_arr hW hk (ty := .int) rfl
    rw [zi_vr er]
    have h5 := h4 _ hlt
    rw [hjj] at h5
    refine W.iald (v := .int (Int32.ofInt (σ.2.1 x j))) hx hb h3 (h1 _ _) (fun q => by cases q) (by rw [arrV_size]; exact hin) ?_ rfl rfl hd (kk h5)
    rw [arrV_read _ _ hlt, hjj]
    rfl
  · obtain ⟨a, ex, er, -, -, ⟨cell, h1, h2, h3, h5, h6⟩, h4⟩ := zi_scr hW hk
    rw [zi_vr er]
    have h7 := h4 _ hlt
    rw [hjj] at h7
    refine W.iald (v := .int (Int32.ofInt (σ.2.1 x j))) hx hb h1 h2 h3 (by rw [h5]; exact hin) ?_ rfl rfl hd (kk h7)
    rw [h6 _ hlt, hjj]
theorem zi_zald (C : zi_cx p s m args meth c D cc nL own ini) (hW : zi_W s D base σ H) {x j : Int} (hk : (σ.1 x).1 = 13) (hj : zi_ir j) (h0 : 0 ≤ j) (hn : j < (σ.1 x).2) (hd : decode cc pc = .ok (.baload, 1))
    (kk : zi_ir (σ.2.1 x j) → W p l e R s m args below meth c H locs cells slots Q (F0 m (pc + 1) L (.int (Int32.ofInt (σ.2.1 x j)) :: rest))) : W p l e R s m args below meth c H locs cells slots Q (F0 m pc L (.int (Int32.ofInt j) :: zi_v (.inr (.inr x)) :: rest)) := by
  obtain ⟨hx, hb, -, hown, hts, hK, hnw, -⟩ := C
  obtain ⟨hin, hjj⟩ := zi_idx hj h0 hn
  have hlt : (Int32.ofInt j).toNatClampNeg < (σ.1 x).2.toNat := by omega
  obtain ⟨a, ex, er, -, -, -, ⟨cA, h1, h2, h3⟩, h4⟩ := zi_arr hW hk (ty := .boolean) rfl
  rw [zi_vr er]
  have h5 := h4 _ hlt
  rw [hjj] at h5
  refine W.zald (v := .int (Int32.ofInt (σ.2.1 x j))) hx hb h3 (h1 _ _) (fun q => by cases q) (by rw [arrV_size]; exact hin) ?_ rfl rfl hd (kk h5)
  rw [arrV_read _ _ hlt, hjj]
  rfl
theorem zi_aald (C : zi_cx p s m args meth c D cc nL own ini) (hW : zi_W s D base σ H) {x j : Int} {k : Nat} (hk : (σ.1 x).1 = k) (hk2 : 14 ≤ k ∧ k ≤ 17) (hj : zi_ir j) (h0 : 0 ≤ j) (hn : j < (σ.1 x).2) (hd : decode cc pc = .ok (.aaload, 1))
    (kk : zi_in (.inr (.inr (σ.2.2.1 x j))) → W p l e R s m args below meth c H locs cells slots Q (F0 m (pc + 1) L (zi_v (.inr (.inr (σ.2.2.1 x j))) :: rest))) : W p l e R s m args below meth c H locs cells slots Q (F0 m pc L (.int (Int32.ofInt j) :: zi_v (.inr (.inr x)) :: rest)) := by
  obtain ⟨hx, hb, -, hown, hts, hK, hnw, -⟩ := C
  obtain ⟨hin, hjj⟩ := zi_idx hj h0 hn
  have hlt : (Int32.ofInt j).toNatClampNeg < (σ.1 x).2.toNat := by omega
  obtain ⟨E, hE, het⟩ : ∃ E, zi_ak k = some (.object E) ∧ zi_et k = 3 := by
    rcases (show k = 14 ∨ k = 15 ∨ k = 16 ∨ k = 17 by omega) with rfl | rfl | rfl | rfl <;> exact ⟨_, rfl, rfl⟩
  obtain ⟨a, ex, er, -, -, -, ⟨cA, h1, h2, h3⟩, h4⟩ := zi_arr hW hk hE
  rw [zi_vr er]
  have h5 := h4 _ hlt
  rw [hjj, het] at h5
  refine W.aald (v := zi_v (.inr (.inr (σ.2.2.1 x j)))) (ty := .object E) hx hb h3 (h1 _ _) rfl (fun q => by cases q) (by rw [arrV_size]; exact hin) ?_ rfl rfl hd (kk h5)
  rw [arrV_read _ _ hlt, hjj, het]
  rfl
theorem zi_alen (C : zi_cx p s m args meth c D cc nL own ini) (hW : zi_W s D base σ H) {x : Int} {k : Nat} (hk : (σ.1 x).1 = k) (hk2 : 12 ≤ k ∧ k ≤ 18) (hd : decode cc pc = .ok (.arraylength, 1))
    (kk : zi_ir (σ.1 x).2 → W p l e R s m args below meth c H locs cells slots Q (F0 m (pc + 1) L (.int (Int32.ofInt (σ.1 x).2) :: rest))) : W p l e R s m args below meth c H locs cells slots Q (F0 m pc L (zi_v (.inr (.inr x)) :: rest)) := by
  obtain ⟨hx, hb, -, hown, hts, hK, hnw, -⟩ := C
  have key : ∀ n : Int, zi_ir n → 0 ≤ n → n.toNat.toInt32 = Int32.ofInt n := by
    intro n hn h0
    have e : n = (n.toNat : Int) := by omega
    rw [e]
    rfl
  by_cases h18 : k = 18
  · subst h18
    obtain ⟨a, ex, er, h5, h6, ⟨cell, h1, h2, h3, h7, h8⟩, h4⟩ := zi_scr hW hk
    rw [zi_vr er]
    exact W.alen hx hb h1 h2 (by rw [h7]; exact key _ h5 h6) rfl rfl hd (kk h5)
  · obtain ⟨ty, hE⟩ : ∃ ty, zi_ak k = some ty := by
      rcases (show k = 12 ∨ k = 13 ∨ k = 14 ∨ k = 15 ∨ k = 16 ∨ k = 17 by omega) with rfl | rfl | rfl | rfl | rfl | rfl <;> exact ⟨_, rfl⟩
    obtain ⟨a, ex, er, -, h5, h6, ⟨cA, h1, h2, h3⟩, h4⟩ := zi_arr hW hk hE
    rw [zi_vr er]
    exact W.alen hx hb h3 (h1 _ _) (by rw [arrV_size]; exact key _ h5 h6) rfl rfl hd (kk h5)
theorem zi_locs {locs : List Loc} {base a k : Nat} (h : ∀ q ∈ locs, base ≤ q.base) (ha : base ≤ a) : ∀ q ∈ locs ++ [(⟨a, k⟩ : Loc)], base ≤ q.base := by
  intro z hz
  rcases List.mem_append.mp hz with h1 | h1
  · exact h z h1
  · rw [List.mem_singleton.mp h1]; exact ha
theorem zi_iast (C : zi_cx p s m args meth c D cc nL own ini) (hW : zi_W s D base σ H) (hlo : ∀ q ∈ locs, base ≤ q.base) {x j v : Int} (hk : (σ.1 x).1 = 12) (hj : zi_ir j) (h0 : 0 ≤ j) (hn : j < (σ.1 x).2) (hv : zi_ir v) (hd : decode cc pc = .ok (.iastore, 1))
    (kk : ∀ (H1 : Heap) (locs1 : List Loc), zi_W s D base (zi_wr σ x j v) H1 → (∀ q ∈ locs1, base ≤ q.base) → W p l e R s m args below meth c H1 locs1 cells slots Q (F0 m (pc + 1) L rest)) : W p l e R s m args below meth c H locs cells slots Q (F0 m pc L (.int (Int32.ofInt v) :: .int (Int32.ofInt j) :: zi_v (.inr (.inr x)) :: rest)) := by
  obtain ⟨hx, hb, -, hown, hts, hK, hnw, -⟩ := C
  obtain ⟨hin, hjj⟩ := zi_idx hj h0 hn
  have hlt : (Int32.ofInt j).toNatClampNeg < (σ.1 x).2.toNat := by omega
  obtain ⟨a, ex, er, hba, -, -, ⟨cA, h1, h2, h3⟩, h4⟩ := zi_arr hW hk (ty := .int) rfl
  rw [zi_vr er]
  refine W.iast hx hb h3 (h1 _ _) (fun q => by cases q) (by rw [arrV_size]; exact hin) rfl rfl hd fun H1 e1 z1 o1 => ?_
  refine kk H1 _ (zi_W_arr (ty := .int) hW ex (by rw [hk]; rfl) zi_only_wr ?_ ?_ z1 o1) (zi_locs hlo hba)
  · intro i hi
    rw [hk]
    show zi_ir (zi_up σ.2.1 x j v x i)
    by_cases hij : (i : Int) = j
    · subst hij; rw [zi_up_eq]; exact hv
    · rw [zi_up_nk hij]; exact h4 i hi
  · intro cB hB
    rw [hk] at hB ⊢
    have hcc : arrV cA (σ.1 x).2.toNat (fun j => zi_v (zi_mkv (zi_et 12) (zi_rd σ (zi_et 12) x j))) = arrV cB (σ.1 x).2.toNat (fun j => zi_v (zi_mkv (zi_et 12) (zi_rd σ (zi_et 12) x j))) := Option.some.inj (h3.symm.trans hB)
    rw [e1, hcc, arrV_store]
    congr 2
    funext i
    show updV _ _ _ i = Value.int (Int32.ofInt (zi_up σ.2.1 x j v x i))
    unfold updV
    by_cases hi : i = (Int32.ofInt j).toNatClampNeg
    · subst hi
      rw [if_pos rfl, hjj, zi_up_eq]
    · rw [if_neg hi, zi_up_nk (by omega)]
      rfl
theorem zi_last (C : zi_cx p s m args meth c D cc nL own ini) (hW : zi_W s D base σ H) (hlo : ∀ q ∈ locs, base ≤ q.base) {x j v : Int} (hk : (σ.1 x).1 = 19) (hj : zi_ir j) (h0 : 0 ≤ j) (hn : j < (σ.1 x).2) (hv : zi_in (.inr (.inl v))) (hd : decode cc pc = .ok (.lastore, 1))
    (kk : ∀ (H1 : Heap) (locs1 : List Loc), zi_W s D base (zi_wr σ x j v) H1 → (∀ q ∈ locs1, base ≤ q.base) → W p l e R s m args below meth c H1 locs1 cells slots Q (F0 m (pc + 1) L rest)) : W p l e R s m args below meth c H locs cells slots Q (F0 m pc L (.long (Int64.ofInt v) :: .int (Int32.ofInt j) :: zi_v (.inr (.inr x)) :: rest)) := by
  obtain ⟨hx, hb, -, hown, hts, hK, hnw, -⟩ := C
  obtain ⟨hin, hjj⟩ := zi_idx hj h0 hn
  have hlt : (Int32.ofInt j).toNatClampNeg < (σ.1 x).2.toNat := by omega
  obtain ⟨a, ex, er, hba, -, -, ⟨cA, h1, h2, h3⟩, h4⟩ := zi_arr hW hk (ty := .long) rfl
  rw [zi_vr er]
  refine W.last hx hb h3 (h1 _ _) (fun q => by cases q) (by rw [arrV_size]; exact hin) rfl rfl hd fun H1 e1 z1 o1 => ?_
  refine kk H1 _ (zi_W_arr (ty := .long) hW ex (by rw [hk]; rfl) zi_only_wr ?_ ?_ z1 o1) (zi_locs hlo hba)
  · intro i hi
    rw [hk]
    show zi_in (.inr (.inl (zi_up σ.2.1 x j v x i)))
    by_cases hij : (i : Int) = j
    · subst hij; rw [zi_up_eq]; exact hv
    · rw [zi_up_nk hij]; exact h4 i hi
  · intro cB hB
    rw [hk] at hB ⊢
    have hcc : arrV cA (σ.1 x).2.toNat (fun j => zi_v (zi_mkv (zi_et 19) (zi_rd σ (zi_et 19) x j))) = arrV cB (σ.1 x).2.toNat (fun j => zi_v (zi_mkv (zi_et 19) (zi_rd σ (zi_et 19) x j))) := Option.some.inj (h3.symm.trans hB)
    rw [e1, hcc, arrV_store]
    congr 2
    funext i
    show updV _ _ _ i = Value.long (Int64.ofInt (zi_up σ.2.1 x j v x i))
    unfold updV
    by_cases hi : i = (Int32.ofInt j).toNatClampNeg
    · subst hi
      rw [if_pos rfl, hjj, zi_up_eq]
    · rw [if_neg hi, zi_up_nk (by omega)]
      rfl
theorem zi_lald (C : zi_cx p s m args meth c D cc nL own ini) (hW : zi_W s D base σ H) {x j : Int} (hk : (σ.1 x).1 = 19) (hj : zi_ir j) (h0 : 0 ≤ j) (hn : j < (σ.1 x).2) (hd : decode cc pc = .ok (.laload, 1))
    (kk : zi_in (.inr (.inl (σ.2.1 x j))) → W p l e R s m args below meth c H locs cells slots Q (F0 m (pc + 1) L (.long (Int64.ofInt (σ.2.1 x j)) :: rest))) : W p l e R s m args below meth c H locs cells slots Q (F0 m pc L (.int (Int32.ofInt j) :: zi_v (.inr (.inr x)) :: rest)) := by
  obtain ⟨hx, hb, -, hown, hts, hK, hnw, -⟩ := C
  obtain ⟨hin, hjj⟩ := zi_idx hj h0 hn
  have hlt : (Int32.ofInt j).toNatClampNeg < (σ.1 x).2.toNat := by omega
  obtain ⟨a, ex, er, -, -, -, ⟨cA, h1, h2, h3⟩, h4⟩ := zi_arr hW hk (ty := .long) rfl
  rw [zi_vr er]
  have h5 := h4 _ hlt
  rw [hjj] at h5
  refine W.lald (v := .long (Int64.ofInt (σ.2.1 x j))) hx hb h3 (h1 _ _) (fun q => by cases q) (by rw [arrV_size]; exact hin) ?_ rfl rfl hd (kk h5)
  rw [arrV_read _ _ hlt, hjj]
  rfl
theorem zi_zast (C : zi_cx p s m args meth c D cc nL own ini) (hW : zi_W s D base σ H) (hlo : ∀ q ∈ locs, base ≤ q.base) {x j v : Int} (hk : (σ.1 x).1 = 13) (hj : zi_ir j) (h0 : 0 ≤ j) (hn : j < (σ.1 x).2) (hv : v = 0 ∨ v = 1) (hd : decode cc pc = .ok (.bastore, 1))
    (kk : ∀ (H1 : Heap) (locs1 : List Loc), zi_W s D base (zi_wr σ x j v) H1 → (∀ q ∈ locs1, base ≤ q.base) → W p l e R s m args below meth c H1 locs1 cells slots Q (F0 m (pc + 1) L rest)) : W p l e R s m args below meth c H locs cells slots Q (F0 m pc L (.int (Int32.ofInt v) :: .int (Int32.ofInt j) :: zi_v (.inr (.inr x)) :: rest)) := by
  obtain ⟨hx, hb, -, hown, hts, hK, hnw, -⟩ := C
  obtain ⟨hin, hjj⟩ := zi_idx hj h0 hn
  have hlt : (Int32.ofInt j).toNatClampNeg < (σ.1 x).2.toNat := by omega
  obtain ⟨a, ex, er, hba, -, -, ⟨cA, h1, h2, h3⟩, h4⟩ := zi_arr hW hk (ty := .boolean) rfl
  rw [zi_vr er]
  refine W.zast hx hb h3 (h1 _ _) (fun q => by cases q) (by rw [arrV_size]; exact hin) rfl rfl hd fun H1 e1 z1 o1 => ?_
  have hnar : narrow .boolean (.int (Int32.ofInt v)) = .int (Int32.ofInt v) := by rcases hv with rfl | rfl <;> decide
  rw [hnar] at e1
  refine kk H1 _ (zi_W_arr (ty := .boolean) hW ex (by rw [hk]; rfl) zi_only_wr ?_ ?_ z1 o1) (zi_locs hlo hba)
  · intro i hi
    rw [hk]
    show zi_ir (zi_up σ.2.1 x j v x i)
    by_cases hij : (i : Int) = j
    · subst hij; rw [zi_up_eq]
      unfold zi_ir
      rcases hv with rfl | rfl <;> omega
    · rw [zi_up_nk hij]; exact h4 i hi
  · intro cB hB
    rw [hk] at hB ⊢
    have hcc : arrV cA (σ.1 x).2.toNat (fun j => zi_v (zi_mkv (zi_et 13) (zi_rd σ (zi_et 13) x j))) = arrV cB (σ.1 x).2.toNat (fun j => zi_v (zi_mkv (zi_et 13) (zi_rd σ (zi_et 13) x j))) := Option.some.inj (h3.symm.trans hB)
    rw [e1, hcc, arrV_store]
    congr 2
    funext i
    show updV _ _ _ i = Value.int (Int32.ofInt (zi_up σ.2.1 x j v x i))
    unfold updV
    by_cases hi : i = (Int32.ofInt j).toNatClampNeg
    · subst hi
      rw [if_pos rfl, hjj, zi_up_eq]
    · rw [if_neg hi, zi_up_nk (by omega)]
      rfl
theorem zi_aast (C : zi_cx p s m args meth c D cc nL own ini) (hW : zi_W s D base σ H) (hlo : ∀ q ∈ locs, base ≤ q.base) {x j v : Int} {k b : Nat} {E : String} {q : vw_C} (hk : (σ.1 x).1 = k) (hE : zi_ak k = some (.object E)) (hk14 : 14 ≤ k) (hq : vwCl[b]? = some q) (hqE : q.1 = E) (hvk : (σ.1 v).1 = b) (hj : zi_ir j) (h0 : 0 ≤ j) (hn : j < (σ.1 x).2) (hd : decode cc pc = .ok (.aastore, 1))
    (kk : ∀ (H1 : Heap) (locs1 : List Loc), zi_W s D base (zi_wq σ x j v) H1 → (∀ q ∈ locs1, base ≤ q.base) → W p l e R s m args below meth c H1 locs1 cells slots Q (F0 m (pc + 1) L rest)) : W p l e R s m args below meth c H locs cells slots Q (F0 m pc L (zi_v (.inr (.inr v)) :: .int (Int32.ofInt j) :: zi_v (.inr (.inr x)) :: rest)) := by
  obtain ⟨hx, hb, -, hown, hts, hK, hnw, -⟩ := C
  obtain ⟨hin, hjj⟩ := zi_idx hj h0 hn
  have hlt : (Int32.ofInt j).toNatClampNeg < (σ.1 x).2.toNat := by omega
  have het : zi_et k = 3 := by
    unfold zi_ak at hE
    split at hE <;> first | rfl | omega | cases hE
  obtain ⟨a, ex, er, hba, -, -, ⟨cA, h1, h2, h3⟩, h4⟩ := zi_arr hW hk hE
  obtain ⟨av, evx, evr, -, ⟨cellV, g1, g2, g3, -⟩, -⟩ := zi_obj hW hvk hq
  rw [zi_vr er, zi_vr evr]
  have hcls := (hK.1 b q hq).2
  obtain ⟨kA, comp, k1, k2, k3, -⟩ := h2
  rw [hqE] at hcls
  have hcomp : comp = D.1 b := Option.some.inj (k3.symm.trans hcls.1)
  subst hcomp
  obtain ⟨kC, hkC, -⟩ := id hcls.2
  refine W.aast hx hb h3 (fun q h => by cases h) (fun h => by cases h) k1 k2 rfl hkC ⟨fun h => hin (Or.inl h), by rw [arrV_size]; exact hlt⟩ g1 (fun q h => by rw [g3] at h; cases h) (by rw [g2]; exact hkC) (by rw [g2]; exact va_assign hcls) rfl rfl hd fun H1 e1 z1 o1 => ?_
  refine kk H1 _ (zi_W_arr hW ex (by rw [hk]; exact hE) zi_only_wq ?_ ?_ z1 o1) (zi_locs hlo hba)
  · intro i hi
    rw [hk, het]
    show (0 : Int) ≤ zi_up σ.2.2.1 x j v x i
    by_cases hij : (i : Int) = j
    · subst hij; rw [zi_up_eq]
      omega
    · rw [zi_up_nk hij]
      have := h4 i hi
      rw [het] at this
      exact this
  · intro cB hB
    rw [hk, het] at hB ⊢
    rw [het] at h3 e1
    have hcc : arrV cA (σ.1 x).2.toNat (fun j => zi_v (zi_mkv 3 (zi_rd σ 3 x j))) = arrV cB (σ.1 x).2.toNat (fun j => zi_v (zi_mkv 3 (zi_rd σ 3 x j))) := Option.some.inj (h3.symm.trans hB)
    rw [e1, hcc, arrV_store]
    congr 2
    funext i
    show updV _ _ _ i = zi_v (.inr (.inr (zi_up σ.2.2.1 x j v x i)))
    unfold updV
    by_cases hi : i = (Int32.ofInt j).toNatClampNeg
    · subst hi
      rw [if_pos rfl, hjj, zi_up_eq]
      exact (zi_vr evr).symm
    · rw [if_neg hi, zi_up_nk (by omega)]
      rfl
theorem zi_newI (C : zi_cx p s m args meth c D cc nL own ini) (hW : zi_W s D base σ H) {at0 : ArrayType} {k : Nat} (hk : (at0 = .int ∧ k = 12) ∨ (at0 = .long ∧ k = 19)) (hwd : Jvm.Cond.arrayClass .int ∈ zi_tb ∧ Jvm.Cond.arrayClass .long ∈ zi_tb) {n : Int} (h0 : 0 ≤ n) (hn : n ≤ 100000) (hcells : cells + 1 ≤ R.cells) (hslots : slots + n.toNat ≤ R.slots) (hd : decode cc pc = .ok (.newarray at0, 2))
    (kk : ∀ H1 : Heap, zi_W s D base (zi_new σ k n n.toNat) H1 → W p l e R s m args below meth c H1 locs (cells + 1) (slots + n.toNat) Q (F0 m (pc + 2) L (zi_v (.inr (.inr σ.2.2.2.1)) :: rest))) : W p l e R s m args below meth c H locs cells slots Q (F0 m pc L (.int (Int32.ofInt n) :: rest)) := by
  obtain ⟨hx, hb, -, hown, hts, hK, hnw, -⟩ := C
  have hir : zi_ir n := by unfold zi_ir; omega
  have hnn : (Int32.ofInt n).toNatClampNeg = n.toNat := by
    show (Int32.ofInt n).toInt.toNat = _
    rw [zi_oi' hir]
  have hneg : ¬ Int32.ofInt n < 0 := by rw [zi_z, zi_lt hir zi_ir0]; omega
  have hro : zi_v (.inr (.inr σ.2.2.2.1)) = .ref H.size := by
    apply zi_vr
    unfold zi_ro
    have := hW.1
    rw [if_neg (by omega)]
    congr 1
    omega
  rcases hk with ⟨rfl, rfl⟩ | ⟨rfl, rfl⟩
  · refine va_newaK (atype := .int) (N := n.toNat) hx hb (hts _ hwd.1) rfl hd rfl hneg hnn ?_ hcells hslots rfl fun H1 cA e1 z1 o1 hA hN => ?_
    · show n.toNat * 4 ≤ 536870912
      omega
    · have := kk H1 (zi_W_new hW (by decide) z1 o1 (fun q hq => by simp [vwCl] at hq) (fun ty hty => by cases hty; exact ⟨hir, h0, cA, hA, hN, e1⟩))
      rw [hro] at this
      exact this
  · refine va_newaK (atype := .long) (N := n.toNat) hx hb (hts _ hwd.2) rfl hd rfl hneg hnn ?_ hcells hslots rfl fun H1 cA e1 z1 o1 hA hN => ?_
    · show n.toNat * 8 ≤ 536870912
      omega
    · have := kk H1 (zi_W_new hW (by decide) z1 o1 (fun q hq => by simp [vwCl] at hq) (fun ty hty => by cases hty; exact ⟨hir, h0, cA, hA, hN, e1⟩))
      rw [hro] at this
      exact this
theorem zi_newQ (C : zi_cx p s m args meth c D cc nL own ini) (hW : zi_W s D base σ H) {idx a : Nat} (hp : zi_pm recs own (idx, 9, a, 0)) {n : Int} (h0 : 0 ≤ n) (hn : n ≤ 100000) (hcells : cells + 1 ≤ R.cells) (hslots : slots + n.toNat ≤ R.slots) (hd : decode cc pc = .ok (.anewarray idx, 3))
    (kk : ∀ H1 : Heap, zi_W s D base (zi_new σ a n n.toNat) H1 → W p l e R s m args below meth c H1 locs (cells + 1) (slots + n.toNat) Q (F0 m (pc + 3) L (zi_v (.inr (.inr σ.2.2.2.1)) :: rest))) : W p l e R s m args below meth c H locs cells slots Q (F0 m pc L (.int (Int32.ofInt n) :: rest)) := by
  obtain ⟨hx, hb, -, hown, hts, hK, hnw, -⟩ := C
  obtain ⟨E, hE, hw1, hw2⟩ := hp
  change zi_ak a = some (.object E) at hE
  have hir : zi_ir n := by unfold zi_ir; omega
  have hnn : (Int32.ofInt n).toNatClampNeg = n.toNat := by
    show (Int32.ofInt n).toInt.toNat = _
    rw [zi_oi' hir]
  have hneg : ¬ Int32.ofInt n < 0 := by rw [zi_z, zi_lt hir zi_ir0]; omega
  have hro : zi_v (.inr (.inr σ.2.2.2.1)) = .ref H.size := by
    apply zi_vr
    unfold zi_ro
    have := hW.1
    rw [if_neg (by omega)]
    congr 1
    omega
  have ha : 14 ≤ a ∧ a ≤ 17 := by
    unfold zi_ak at hE
    split at hE <;> first | omega | cases hE
  have het : zi_et a = 3 := by
    rcases (show a = 14 ∨ a = 15 ∨ a = 16 ∨ a = 17 by omega) with rfl | rfl | rfl | rfl <;> rfl
  refine W.anew hx hb hown (hts _ hw1) (va_AO.use (hnw _ hw2 rfl)) rfl hd rfl hneg (by rw [hnn]; omega) hcells (by rw [hnn]; exact hslots) fun cA kA comp f1 f2 f3 f4 => ?_
  rw [hnn]
  generalize hH1 : H.push ({ cls := cA, slots := Array.replicate n.toNat .null, vm := .none } : Cell) = H1
  have z1 : H1.size = H.size + 1 := by rw [← hH1, Array.size_push]
  have e1 : H1[H.size]? = some (arrV cA n.toNat (fun _ => .null)) := by rw [← hH1, Array.getElem?_push_size, ← arrV_new]
  have o1 : ∀ q : Nat, q < H.size → H1[q]? = H[q]? := fun q hq => by rw [← hH1, Array.getElem?_push, if_neg (Nat.ne_of_lt hq)]
  have hAr : ArrOfT s cA (.object E) := fun N z => ⟨(fun k h => by cases h), kA, f2, comp, f3⟩
  have := kk H1 (zi_W_new hW (by omega) z1 o1 (fun q hq => by
    exfalso
    have := (List.getElem?_eq_some_iff.mp hq).1
    simp [vwCl] at this
    omega) (fun ty hty => by
      rw [hE] at hty
      cases hty
      rw [het]
      exact ⟨hir, h0, cA, hAr, ⟨kA, comp, f2, f3, f4, f1⟩, e1⟩))
  rw [hro] at this
  exact this
theorem zi_dv {t : Nat} {ty : FieldType} (h : zi_tk t ty) : defaultValue ty = zi_v (zi_mkv t 0) := by
  match t, h with
  | 1, h => cases h; decide
  | 2, h => cases h; decide
  | 3, h => rcases h with ⟨C, rfl⟩ | ⟨t, rfl⟩ <;> rfl
theorem zi_newO (C : zi_cx p s m args meth c D cc nL own ini) (hW : zi_W s D base σ H) {idx a : Nat} {b : Int} (hp : zi_pm recs own (idx, 8, a, b)) (hcells : cells + 1 ≤ R.cells) (hslots : slots + b.toNat ≤ R.slots) (hd : decode cc pc = .ok (.new idx, 3))
    (kk : ∀ H1 : Heap, zi_W s D base (zi_new σ a 0 b.toNat) H1 → W p l e R s m args below meth c H1 locs (cells + 1) (slots + b.toNat) Q (F0 m (pc + 3) L (zi_v (.inr (.inr σ.2.2.2.1)) :: rest))) : W p l e R s m args below meth c H locs cells slots Q (F0 m pc L rest) := by
  obtain ⟨hx, hb, -, hown, hts, hK, hnw, -⟩ := C
  obtain ⟨q, hq, hbq, hw1, hw2, hw3⟩ := hp
  change b = (q.2.2 : Int) at hbq
  have hbn : b.toNat = q.2.2 := by omega
  rw [hbn] at hslots kk
  have hro : zi_v (.inr (.inr σ.2.2.2.1)) = .ref H.size := by
    apply zi_vr
    unfold zi_ro
    have := hW.1
    rw [if_neg (by omega)]
    congr 1
    omega
  obtain ⟨hin1, ty, hty, hnm, htk, hdecl⟩ := zi_cls hq
  have hKn := hK.1 a _ hq
  refine W.newcK hx hb hown (hts _ hw1) (hts _ hw2) (hts _ hw3) rfl hd hcells hslots hKn.2.1 rfl fun H1 kC hkC e1 z1 o1 => ?_
  have ha : a < 11 := by
    have := (List.getElem?_eq_some_iff.mp hq).1
    simpa [vwCl] using this
  have := kk H1 (zi_W_new hW (by omega) z1 o1 (fun q' hq' => by
    have e : q' = q := Option.some.inj (hq'.symm.trans hq)
    subst e
    exact (u_born ty hts hin1 hKn hkC e1 hty).to (fun i hi => zi_dv (htk i hi))) (fun ty hty => by
      exfalso
      unfold zi_ak at hty
      split at hty <;> first | omega | cases hty))
  rw [hro] at this
  exact this
end ZH
end
section
/-! calls -/
def zi_rv (rk : Nat) (r : Int) : Option Value := match rk with
  | 0 => none
  | t => some (zi_v (zi_mkv t r))
def zi_Pc (D : va_G) (base : Nat) (vs : List zV) (σ : zM) : Array Value → State → Prop := fun A U => A = (vs.map zi_v).toArray ∧ va_K D vwCl [] U ∧ zi_nw U ∧ zi_W U D base σ U.heap
def zi_Qc (D : va_G) (base rk : Nat) (r : Int) (σ' : zM) : Array Value → State → Outcome → State → Prop := fun _ _ o t => o = .returned (zi_rv rk r) ∧ zi_in (zi_mkv rk r) ∧ va_K D vwCl [] t ∧ zi_W t D base σ' t.heap
def zi_rm (d mc ms : Nat) : Room := { frames := d, cells := mc, slots := ms, locals := 38 * d }
def zi_ws (r : zi_rec) : List Jvm.Cond := Jvm.Cond.code r.1 r.2.1 r.2.2.2.2.2.2.1 r.2.2.1 :: zi_tb
def zi_rok (r : zi_rec) : Prop := Jvm.Cond.code r.1 r.2.1 r.2.2.2.2.2.2.1 r.2.2.1 ∈ zi_tb ∧ Jvm.Cond.initialized r.1.cls ∈ zi_tb ∧ r.1.cls ≠ "java/lang/invoke/MethodHandle" ∧ r.1.cls ≠ "java/lang/invoke/VarHandle" ∧ (parseMethodDescriptor r.1.desc).map (fun d => d.parameters.length) = some r.2.2.2.1 ∧ r.2.2.2.2.2.2.1 ≤ 19
theorem zi_good {w : Jvm.Cond} (h : w ∈ zi_tb) : (w.onTables && w.keeps) = true ∨ ∃ ty, w = .arrayClass ty := good_of_word (List.mem_filter.mp h).2
theorem zi_gin {r : zi_rec} (h : zi_rok r) : GoodIn zi_tb (zi_ws r) := by
  intro w hw
  rcases List.mem_cons.mp hw with h1 | h1
  · rw [h1]; exact ⟨h.1, zi_good h.1⟩
  · exact ⟨h1, zi_good h1⟩
def zi_Met (l : Launch) (r : zi_rec) (d : Nat) (vs : List zV) (σ : zM) (x : Int) (σ' : zM) : Prop := ∀ (D : va_G) (base : Nat), Met l r.1 (zi_ws r) (zi_rm d (σ'.2.2.2.1 - σ.2.2.2.1).toNat (σ'.2.2.2.2 - σ.2.2.2.2)) (zi_Pc D base vs σ) (zi_Qc D base r.2.2.2.2.2.2.2 x σ') (σ'.2.2.2.1 - σ.2.2.2.1).toNat (σ'.2.2.2.2 - σ.2.2.2.2) (fun q => base ≤ q)
theorem zi_isN_on {w : Jvm.Cond} (h : zi_isN w = true) : w.onTables = true ∨ ∃ C, w = .arrayOver (.object C) := by
  match w, h with
  | .fieldLinkNest _ _ _ _ _ _, _ => exact Or.inl rfl
  | .methodLinkNest _ _ _ _, _ => exact Or.inl rfl
  | .arrayOver (.object C), _ => exact Or.inr ⟨C, rfl⟩
theorem zi_nw.same {s U : State} (hv : s.vm = U.vm) (h : zi_nw s) : zi_nw U := by
  intro w hw hn
  rcases zi_isN_on hn with h1 | ⟨C, rfl⟩
  · exact va_Nw.same h1 hv (h w hw hn)
  · exact va_AO.moved (by rw [hv]; exact Vm.Alike.refl _) (h _ hw hn)
theorem zi_blind {D : va_G} {base : Nat} {vs : List zV} {σ : zM} : FrameBlind (zi_Pc D base vs σ) := fun a U g mk h => ⟨h.1, va_K.moved (u := U) (U := U.calling g mk a) (Vm.Alike.refl U.vm) h.2.1, zi_nw.same (s := U) (U := U.calling g mk a) rfl h.2.2.1, zi_W.moved (u := U) (U := U.calling g mk a) (Vm.Alike.refl U.vm) h.2.2.2⟩
theorem zi_cats_eq : ∀ r : List zV, ((r.map zi_v).map fun v => v.category).sum = zi_cats r
  | [] => rfl
  | .inl x :: r => by
    have := zi_cats_eq r
    simp only [List.map_cons, List.sum_cons, zi_cats, this]
    rfl
  | .inr (.inl x) :: r => by
    have := zi_cats_eq r
    simp only [List.map_cons, List.sum_cons, zi_cats, this]
    rfl
  | .inr (.inr x) :: r => by
    have := zi_cats_eq r
    simp only [List.map_cons, List.sum_cons, zi_cats, this]
    have h : (zi_v (.inr (.inr x))).category = 1 := zi_v_cat1 rfl
    rw [h]
theorem zi_push_eq (rk : Nat) (x : Int) (r : List zV) : (zi_rv rk x).toList ++ r.map zi_v = (zi_push rk x r).map zi_v := by
  unfold zi_rv zi_push
  split <;> simp only [Option.toList, List.nil_append, List.cons_append] <;> (split <;> first | rfl | simp_all [zi_mkv])
theorem zi_push_in {rk : Nat} {x : Int} {r : List zV} (hx : zi_in (zi_mkv rk x)) (hr : ∀ v ∈ r, zi_in v) : ∀ v ∈ zi_push rk x r, zi_in v := by
  unfold zi_push
  intro v hv
  split at hv
  · exact hr v hv
  all_goals
    rcases List.mem_cons.mp hv with h | h
    · rw [h]
      first | exact hx | (unfold zi_mkv at hx; split at hx <;> first | exact hx | (exfalso; simp_all))
    · exact hr v h
theorem zi_take_spec : ∀ {n : Nat} {acc st vs r : List zV}, zi_take n acc st = some (vs, r) → ∃ a, vs = a ++ acc ∧ st = a.reverse ++ r ∧ a.length = n
  | 0, acc, st, vs, r, h => by cases h; exact ⟨[], rfl, rfl, rfl⟩
  | n + 1, acc, [], vs, r, h => by cases h
  | n + 1, acc, v :: st, vs, r, h => by
    obtain ⟨a, h1, h2, h3⟩ := zi_take_spec (n := n) (acc := v :: acc) (st := st) h
    refine ⟨a ++ [v], by rw [h1]; simp, by rw [h2]; simp, by simp [h3]⟩
section ZC
variable {p : Program} {l : Launch} {e : Env} {R : Room} {s : State} {m : MethodId} {args : Array Value} {below : List Frame} {meth : Method} {c : Code} {H : Heap} {locs : List Loc} {cells slots : Nat} {Q : State → Prop} {D : va_G} {cc : ByteArray} {nL : Nat} {own : String} {ini : Bool} {base : Nat} {σ σ' : zM} {recs : List zi_rec} {pc : Nat} {L : Array Slot}
theorem zi_ran {mc ms rk : Nat} {x : Int} {restV st0 : List Value} {A : Array Value} (hr : va_Run p l e R s m args below meth c H locs cells slots mc ms (F0 m pc L st0) restV (zi_Qc D base rk x σ' A) (fun q => base ≤ q)) (hlo : ∀ q ∈ locs, base ≤ q.base)
    (kk : ∀ (H1 : Heap) (locs1 : List Loc), zi_W s D base σ' H1 → zi_in (zi_mkv rk x) → (∀ q ∈ locs1, base ≤ q.base) → W p l e R s m args below meth c H1 locs1 (cells + mc) (slots + ms) Q (F0 m (pc + 3) L ((zi_rv rk x).toList ++ restV))) : W p l e R s m args below meth c H locs cells slots Q (F0 m pc L st0) := by
  intro T hT X
  obtain ⟨v, st₀, t, T', LL, h0, X', hL, e1, e2, ⟨hv, hin, -, hW⟩, st⟩ := hr T hT X
  cases hv
  have hal : s.vm.Alike t.vm := by rw [← e2]; exact X'.warmed.alike
  obtain ⟨t2, a1, b1⟩ := kk T'.heap (locs ++ LL) (by rw [e1]; exact zi_W.moved hal.symm hW) hin (fun q hq => by
      rcases List.mem_append.mp hq with h | h
      · exact hlo q h
      · exact hL q h) T' rfl X'
  exact ⟨t2, st t2 a1, b1⟩
theorem zi_callB {r : zi_rec} {d mc ms idx : Nat} (hok : zi_rok r) (hts : ∀ w ∈ zi_tb, w.before args s = true) (hl : (Jvm.Cond.methodLink own idx r.1).before args s = true) (hf : d + 1 ≤ R.frames) (hlc : 38 * (d + 1) ≤ R.locals) :
    CallB R s args own idx r.1 r.2.1 r.2.2.2.2.2.2.1 r.2.2.1 (zi_ws r) (zi_rm d mc ms) mc ms r.2.2.2.1 := by
  obtain ⟨h1, h2, h3, h4, h5, h6⟩ := hok
  exact callB_of (Ts := zi_tb) (ws' := zi_tb) r.2.2.2.1 hts (zi_gin ⟨h1, h2, h3, h4, h5, h6⟩) rfl rfl rfl (hts _ h2) hl ⟨h3, h4, h5⟩ ⟨hf, by show 8 + (_ + 11) + 38 * d ≤ _; omega⟩
theorem zi_callN {r : zi_rec} {d mc ms idx : Nat} {host : String} (hok : zi_rok r) (hts : ∀ w ∈ zi_tb, w.before args s = true) (hl : (Jvm.Cond.methodLinkNest own idx r.1 host).before #[] s = true) (hf : d + 1 ≤ R.frames) (hlc : 38 * (d + 1) ≤ R.locals) :
    va_CN R s args own idx r.1 host r.2.1 r.2.2.2.2.2.2.1 r.2.2.1 (zi_ws r) (zi_rm d mc ms) mc ms r.2.2.2.1 := by
  obtain ⟨h1, h2, h3, h4, h5, h6⟩ := hok
  exact va_cnB (Ts := zi_tb) (ws' := zi_tb) r.2.2.2.1 hts (zi_gin ⟨h1, h2, h3, h4, h5, h6⟩) rfl rfl rfl hl (hts _ h2) ⟨h3, h4, h5⟩ ⟨hf, by show 8 + (_ + 11) + 38 * d ≤ _; omega⟩
/-- a call of a method -/
theorem zi_invoke (C : zi_cx p s m args meth c D cc nL own ini) (hW : zi_W s D base σ H) (hlo : ∀ q ∈ locs, base ≤ q.base) (hLs : L.size = nL) {ins : Instr} {idx a n : Nat} {b : Int} {r : zi_rec} {vs st rest : List zV} {x : Int} {d : Nat}
    (hr : recs[a]? = some r) (hok : zi_rok r) (hp : (ins = .invokestatic idx ∧ n = r.2.2.2.1 ∧ (zi_pm recs own (idx, 2, a, b) ∨ zi_pm recs own (idx, 3, a, b))) ∨ (n = r.2.2.2.1 + 1 ∧ (∃ y vs', vs = .inr (.inr y) :: vs' ∧ ((σ.1 y).1 : Int) = b) ∧ ((ins = .invokevirtual idx ∧ (zi_pm recs own (idx, 4, a, b) ∨ zi_pm recs own (idx, 5, a, b))) ∨ (ins = .invokespecial idx ∧ (zi_pm recs own (idx, 6, a, b) ∨ zi_pm recs own (idx, 7, a, b))))))
    (hst : zi_take n [] st = some (vs, rest)) (hcat : zi_cats rest ≤ 8) (hf : d + 1 ≤ R.frames) (hlc : 38 * (d + 1) ≤ R.locals) (hM : zi_Met l r d vs σ x σ')
    (hcs : cells + (σ'.2.2.2.1 - σ.2.2.2.1).toNat ≤ R.cells ∧ slots + (σ'.2.2.2.2 - σ.2.2.2.2) ≤ R.slots) (hd : decode cc pc = .ok (ins, 3))
    (kk : ∀ (H1 : Heap) (locs1 : List Loc), zi_W s D base σ' H1 → zi_in (zi_mkv r.2.2.2.2.2.2.2 x) → (∀ q ∈ locs1, base ≤ q.base) → W p l e R s m args below meth c H1 locs1 (cells + (σ'.2.2.2.1 - σ.2.2.2.1).toNat) (slots + (σ'.2.2.2.2 - σ.2.2.2.2)) Q (F0 m (pc + 3) L ((zi_push r.2.2.2.2.2.2.2 x rest).map zi_v))) : W p l e R s m args below meth c H locs cells slots Q (F0 m pc L (st.map zi_v)) := by
  obtain ⟨hx, hb, hml, hown, hts, hK, hnw, hini⟩ := C
  have S0 : CallFix p m c cc nL s args zi_tb own := ⟨hx, hb, hml, hown, hts⟩
  obtain ⟨av, e1, e2, e3⟩ := zi_take_spec hst
  rw [List.append_nil] at e1
  subst e1
  have hcat' : (((rest.map zi_v)).map fun v => v.category).sum ≤ 8 := by rw [zi_cats_eq]; exact hcat
  have hpre : ∀ U : State, U.heap = H → s.WarmedH U.vm → zi_Pc D base vs σ (vs.map zi_v).toArray U := fun U hU hWm => ⟨rfl, va_K.moved hWm.alike hK, zi_nw.moved hWm hnw, by rw [hU]; exact zi_W.moved hWm.alike hW⟩
  have kk' : ∀ (H1 : Heap) (locs1 : List Loc), zi_W s D base σ' H1 → zi_in (zi_mkv r.2.2.2.2.2.2.2 x) → (∀ q ∈ locs1, base ≤ q.base) → W p l e R s m args below meth c H1 locs1 (cells + (σ'.2.2.2.1 - σ.2.2.2.1).toNat) (slots + (σ'.2.2.2.2 - σ.2.2.2.2)) Q (F0 m (pc + 3) L ((zi_rv r.2.2.2.2.2.2.2 x).toList ++ rest.map zi_v)) := by
    intro H1 locs1 g1 g2 g3
    rw [zi_push_eq]
    exact kk H1 locs1 g1 g2 g3
  have hstk : st.map zi_v = (vs.map zi_v).reverse ++ rest.map zi_v := by rw [e2]; simp
  rw [hstk]
  rcases hp with ⟨rfl, hn, hp⟩ | ⟨hn, ⟨y, vs', rfl, hyb⟩, hp⟩
  · have hlen : (vs.map zi_v).length = r.2.2.2.1 := by rw [List.length_map, e3, hn]
    rcases hp with ⟨r', hr', hw1, hw2⟩ | ⟨r', host, hr', hw1, hw2⟩
    · have : r' = r := Option.some.inj (hr'.symm.trans hr)
      subst this
      exact zi_ran (va_runS S0 (hM D base) ⟨zi_callB hok hts (hts _ hw1) hf hlc, hts _ hw2⟩ ⟨zi_blind, hpre⟩ rfl hlen hLs rfl (lv_room hcat') hd hcs) hlo kk'
    · have : r' = r := Option.some.inj (hr'.symm.trans hr)
      subst this
      exact zi_ran (va_runSN S0 (hM D base) ⟨zi_callN hok hts (hnw _ hw1 rfl) hf hlc, hts _ hw2, trivial⟩ ⟨zi_blind, hpre⟩ rfl hlen hLs rfl (lv_room hcat') hd hcs) hlo kk'
  · have hlen : (vs'.map zi_v).length = r.2.2.2.1 := by
      rw [List.length_map]
      rw [List.length_cons] at e3
      omega
    have hy : ∀ q : vw_C, vwCl[b.toNat]? = some q → ∃ ad : Nat, zi_v (.inr (.inr y)) = .ref ad ∧ ∃ cellB : Cell, H[ad]? = some cellB ∧ cellB.vm.isStatics = false ∧ s.vm.findClass q.1 = some cellB.cls := by
      intro q hq
      have hk : (σ.1 y).1 = b.toNat := by omega
      obtain ⟨ad, ex, er, -, ⟨cell, q1, q2, q3, -⟩, -⟩ := zi_obj hW hk hq
      exact ⟨ad, zi_vr er, cell, q1, by rw [q3]; rfl, by rw [q2]; exact (hK.1 _ q hq).2.1⟩
    have hst2 : ∀ ad : Nat, zi_v (.inr (.inr y)) = .ref ad → ((.inr (.inr y) :: vs').map zi_v).reverse ++ rest.map zi_v = (vs'.map zi_v).reverse ++ .ref ad :: rest.map zi_v := by
      intro ad h
      rw [List.map_cons, h]
      simp
    have hpre2 : ∀ ad : Nat, zi_v (.inr (.inr y)) = .ref ad → ∀ U : State, U.heap = H → s.WarmedH U.vm → zi_Pc D base (.inr (.inr y) :: vs') σ (Value.ref ad :: vs'.map zi_v).toArray U := by
      intro ad h U hU hWm
      have := hpre U hU hWm
      rw [List.map_cons, h] at this
      exact this
    rcases hp with ⟨rfl, hp⟩ | ⟨rfl, hp⟩
    · rcases hp with ⟨r', q, hr', hq, -, hcl, hw1, hw2, hw3⟩ | ⟨r', q, host, hr', hq, -, hcl, hw1, hw2, hw3⟩
      · have : r' = r := Option.some.inj (hr'.symm.trans hr)
        subst this
        obtain ⟨ad, h1, h2⟩ := hy q hq
        rw [hst2 ad h1]
        exact zi_ran (va_runV (C := q.1) S0 (hM D base) ⟨zi_callB hok hts (hts _ hw1) hf hlc, hts _ hw2, hts _ hw3⟩ ⟨zi_blind, h2, hpre2 ad h1⟩ rfl hlen hLs rfl (lv_room hcat') hd hcs) hlo kk'
      · have : r' = r := Option.some.inj (hr'.symm.trans hr)
        subst this
        obtain ⟨ad, h1, h2⟩ := hy q hq
        rw [hst2 ad h1]
        exact zi_ran (va_runVN (C := q.1) S0 (hM D base) ⟨zi_callN hok hts (hnw _ hw1 rfl) hf hlc, hts _ hw2, hts _ hw3⟩ ⟨zi_blind, h2, hpre2 ad h1⟩ rfl hlen hLs rfl (lv_room hcat') hd hcs) hlo kk'
    · have h12 : 0 ≤ b ∧ b < 11 → ∃ q, vwCl[b.toNat]? = some q := by
        intro h
        have : b.toNat < vwCl.length := by
          show b.toNat < 11
          omega
        exact ⟨_, List.getElem?_eq_getElem this⟩
      rcases hp with ⟨r', hr', hb1, hb2, hnm, hrt, hw1, hw2⟩ | ⟨r', host, hr', hb1, hb2, hnm, hrt, hw1, hw2⟩
      · have : r' = r := Option.some.inj (hr'.symm.trans hr)
        subst this
        obtain ⟨q, hq⟩ := h12 ⟨hb1, hb2⟩
        obtain ⟨ad, h1, h2⟩ := hy q hq
        rw [hst2 ad h1]
        have hB := zi_callB (R := R) (s := s) (args := args) (own := own) (idx := idx) (mc := (σ'.2.2.2.1 - σ.2.2.2.1).toNat) (ms := σ'.2.2.2.2 - σ.2.2.2.2) hok hts (hts _ hw1) hf hlc
        rw [hrt] at hB
        exact zi_ran (va_runI S0 (hM D base) ⟨hB, hnm, hts _ hw2⟩ ⟨zi_blind, hpre2 ad h1⟩ rfl hlen hLs rfl (lv_room hcat') hd hcs) hlo kk'
      · have : r' = r := Option.some.inj (hr'.symm.trans hr)
        subst this
        obtain ⟨q, hq⟩ := h12 ⟨hb1, hb2⟩
        obtain ⟨ad, h1, h2⟩ := hy q hq
        rw [hst2 ad h1]
        have hB := zi_callN (R := R) (s := s) (args := args) (own := own) (idx := idx) (mc := (σ'.2.2.2.1 - σ.2.2.2.1).toNat) (ms := σ'.2.2.2.2 - σ.2.2.2.2) hok hts (hnw _ hw1 rfl) hf hlc
        rw [hrt] at hB
        exact zi_ran (va_runIN S0 (hM D base) ⟨hB, hnm, hts _ hw2⟩ ⟨zi_blind, hpre2 ad h1⟩ rfl hlen hLs rfl (lv_room hcat') hd hcs) hlo kk'
/-- arraycopy -/
theorem zi_copy (C : zi_cx p s m args meth c D cc nL own ini) (hW : zi_W s D base σ H) (hlo : ∀ q ∈ locs, base ≤ q.base) (hLs : L.size = nL) {idx : Nat} {b : Int} (hp : zi_pm recs own (idx, 13, 1005, b)) {x y sp dp n : Int} {rest : List zV} (hcat : zi_cats rest ≤ 8) (hf : 1 ≤ R.frames) (hlc : 38 ≤ R.locals)
    (hkx : (σ.1 x).1 = 12) (hky : (σ.1 y).1 = 12) (h0 : 0 ≤ sp) (h1 : 0 ≤ dp) (h2 : 0 ≤ n) (h3 : sp + n ≤ (σ.1 x).2) (h4 : dp + n ≤ (σ.1 y).2) (hsp : zi_ir sp) (hdp : zi_ir dp) (hn : zi_ir n) (hd : decode cc pc = .ok (.invokestatic idx, 3))
    (kk : ∀ (H1 : Heap) (locs1 : List Loc), zi_W s D base (σ.1, zi_cpy σ.2.1 x y sp dp n, σ.2.2) H1 → (∀ q ∈ locs1, base ≤ q.base) → W p l e R s m args below meth c H1 locs1 cells slots Q (F0 m (pc + 3) L (rest.map zi_v))) :
    W p l e R s m args below meth c H locs cells slots Q (F0 m pc L ([.inl n, .inl dp, .inr (.inr y), .inl sp, .inr (.inr x)].map zi_v ++ rest.map zi_v)) := by
  obtain ⟨hx, hb, hml, hown, hts, hK, hnw, hini⟩ := C
  obtain ⟨hw1, hw2, hw3, hw4⟩ : Jvm.Cond.methodLink own idx arraycopyName ∈ zi_tb ∧ Jvm.Cond.native arraycopyName ∈ zi_tb ∧ Jvm.Cond.static arraycopyName ∈ zi_tb ∧ Jvm.Cond.initialized "java/lang/System" ∈ zi_tb := by
    rcases hp with ⟨h, -⟩ | ⟨h, -⟩ | ⟨h, -⟩ | ⟨h, -⟩ | ⟨-, h⟩
    · cases h
    · cases h
    · cases h
    · cases h
    · exact h
  obtain ⟨ax, ex, er, hbx, -, -, ⟨cx, a1, a2, a3⟩, a4⟩ := zi_arr hW hkx (ty := .int) rfl
  obtain ⟨ay, ey, fr, hby, -, -, ⟨cy, b1, b2, b3⟩, b4⟩ := zi_arr hW hky (ty := .int) rfl
  have tn : ∀ z : Int, zi_ir z → 0 ≤ z → (Int32.ofInt z).toNatClampNeg = z.toNat := by
    intro z hz h
    show (Int32.ofInt z).toInt.toNat = _
    rw [zi_oi' hz]
  have ng : ∀ z : Int, zi_ir z → 0 ≤ z → ¬ Int32.ofInt z < 0 := by
    intro z hz h
    rw [zi_z, zi_lt hz zi_ir0]; omega
  show W p l e R s m args below meth c H locs cells slots Q (F0 m pc L (.int (Int32.ofInt n) :: .int (Int32.ofInt dp) :: zi_v (.inr (.inr y)) :: .int (Int32.ofInt sp) :: zi_v (.inr (.inr x)) :: rest.map zi_v))
  rw [zi_vr er, zi_vr fr]
  have hcat' : (((rest.map zi_v)).map fun v => v.category).sum ≤ 8 := by rw [zi_cats_eq]; exact hcat
  have hnf : nativeFrameWords "java/lang/System" "arraycopy" 5 = 7 := by decide
  have hnz : ∀ z : Int, zi_ir z → 0 ≤ z → (Int32.ofInt z).toInt = z := fun z hz _ => zi_oi' hz
  have hlt := (Array.getElem?_eq_some_iff.mp b3).1
  intro T hT X
  obtain ⟨-, k0, hk0, cm0, hkk0⟩ := a1 (σ.1 x).2.toNat (fun j => zi_v (zi_mkv (zi_et 12) (σ.2.1 x j)))
  obtain ⟨-, k1, hk1, cm1, hkk1⟩ := b1 (σ.1 y).2.toNat (fun j => zi_v (zi_mkv (zi_et 12) (σ.2.1 y j)))
  obtain ⟨vm', X', step⟩ := X.arraycopy hx hown (hts _ hw1) (hts _ hw2) (hts _ hw3) (hts _ hw4) (src := ax) (dst := ay) (cs := arrV cx (σ.1 x).2.toNat (fun j => zi_v (zi_mkv (zi_et 12) (σ.2.1 x j)))) (cd := arrV cy (σ.1 y).2.toNat (fun j => zi_v (zi_mkv (zi_et 12) (σ.2.1 y j)))) (srcPos := Int32.ofInt sp) (destPos := Int32.ofInt dp) (n := Int32.ofInt n) (by rw [hT]; exact a3) (by rw [hT]; exact b3)
    (fun _ h => by cases h) (fun _ h => by cases h) (fun h => by cases h) (fun h => by cases h) hk0 hk1 hkk0 hkk1 (by simp [refKind]) (ng _ hsp h0) (ng _ hdp h1) (ng _ hn h2)
    (by rw [hnz _ hsp h0, hnz _ hn h2, arrV_size]; omega)
    (by rw [hnz _ hdp h1, hnz _ hn h2, arrV_size]; omega)
    (fun vm₁ _ i hi => by
      rw [tn _ hn h2] at hi
      have e : (arrV cx (σ.1 x).2.toNat (fun j => zi_v (zi_mkv (zi_et 12) (σ.2.1 x j)))).slots.getD ((Int32.ofInt sp).toNatClampNeg + i) .null = .int (Int32.ofInt (σ.2.1 x ((Int32.ofInt sp).toNatClampNeg + i : Nat))) := by
        rw [Array.getD_eq_getD_getElem?, arrV_read _ _ (by rw [tn _ hsp h0]; omega)]
        rfl
      rw [e]
      exact ⟨rfl, trivial⟩)
    (g := F0 m pc L (.int (Int32.ofInt n) :: .int (Int32.ofInt dp) :: .ref ay :: .int (Int32.ofInt sp) :: .ref ax :: rest.map zi_v)) rfl (by rw [hml]; exact hLs) (rest := rest.map zi_v) rfl (by rw [hb]; exact hd) hf (by show 2 * 0 + _ + _ ≤ _; rw [hnf]; omega)
  have e1 : copied (arrV cx (σ.1 x).2.toNat (fun j => zi_v (zi_mkv (zi_et 12) (σ.2.1 x j)))) (arrV cy (σ.1 y).2.toNat (fun j => zi_v (zi_mkv (zi_et 12) (σ.2.1 y j)))) (Int32.ofInt sp) (Int32.ofInt dp) (Int32.ofInt n) = arrV cy (σ.1 y).2.toNat (fun j => zi_v (zi_mkv (zi_et 12) (zi_cpy σ.2.1 x y sp dp n y j))) := by
    refine (va_copied (fun z => .int z) cx cy (fun j => Int32.ofInt (σ.2.1 x j)) (fun j => Int32.ofInt (σ.2.1 y j)) (by rw [tn _ hsp h0, tn _ hn h2]; omega)).trans ?_
    show arrV _ _ _ = arrV _ _ _
    congr 1
    funext j
    show Value.int (va_cpy _ _ _ _ _ j) = Value.int (Int32.ofInt (zi_cpy σ.2.1 x y sp dp n y j))
    unfold va_cpy zi_cpy
    rw [tn _ hsp h0, tn _ hn h2, tn _ hdp h1]
    by_cases hj : dp.toNat ≤ j ∧ j < dp.toNat + n.toNat
    · rw [if_pos hj, if_pos ⟨rfl, by omega, by omega⟩]
      have e5 : ((sp.toNat + (j - dp.toNat) : Nat) : Int) = sp + ((j : Int) - dp) := by omega
      rw [← e5]
    · rw [if_neg hj, if_neg (fun q => hj ⟨by omega, by omega⟩)]
  rw [e1] at X' step
  have hheap : ((T.setVm vm').setCell ay (arrV cy (σ.1 y).2.toNat (fun j => zi_v (zi_mkv (zi_et 12) (zi_cpy σ.2.1 x y sp dp n y j))))).heap = H.setIfInBounds ay (arrV cy (σ.1 y).2.toNat (fun j => zi_v (zi_mkv (zi_et 12) (zi_cpy σ.2.1 x y sp dp n y j)))) := by rw [← hT]; rfl
  obtain ⟨t, g1, g2⟩ := kk _ _ (zi_W_arr (ty := .int) (σ' := (σ.1, zi_cpy σ.2.1 x y sp dp n, σ.2.2)) (H1 := H.setIfInBounds ay (arrV cy (σ.1 y).2.toNat (fun j => zi_v (zi_mkv (zi_et 12) (zi_cpy σ.2.1 x y sp dp n y j))))) hW ey (by rw [hky]; rfl) ⟨rfl, rfl, fun z j hz => ⟨by show zi_cpy σ.2.1 x y sp dp n z j = _; unfold zi_cpy; rw [if_neg (fun q => hz q.1)], rfl⟩⟩ (by
      intro j hj
      rw [hky]
      show zi_ir (zi_cpy σ.2.1 x y sp dp n y j)
      unfold zi_cpy
      by_cases hc : y = y ∧ dp ≤ j ∧ (j : Int) < dp + n
      · rw [if_pos hc]
        have := a4 (sp + (j - dp)).toNat (by omega)
        rw [show (((sp + (j - dp)).toNat : Nat) : Int) = sp + (j - dp) by omega] at this
        exact this
      · rw [if_neg hc]
        exact b4 j hj) (by
      intro cB hB
      rw [hky] at hB ⊢
      have hcc : arrV cy (σ.1 y).2.toNat (fun j => zi_v (zi_mkv (zi_et 12) (σ.2.1 y j))) = arrV cB (σ.1 y).2.toNat (fun j => zi_v (zi_mkv (zi_et 12) (σ.2.1 y j))) := Option.some.inj (b3.symm.trans hB)
      have hcB : cy = cB := congrArg Cell.cls hcc
      rw [← hcB]
      rw [Array.getElem?_setIfInBounds, if_pos rfl, if_pos hlt]
      rfl) (by simp) (fun b hb => by simp [Array.getElem?_setIfInBounds, Ne.symm hb])) (fun q hq => by
      rcases List.mem_append.mp hq with h | h
      · exact hlo q h
      · obtain ⟨z, -, hz⟩ := List.mem_map.mp h
        rw [← hz]
        exact hby) _ hheap X'
  exact ⟨t, step t g1, g2⟩
end ZC
end
section
/-! what the small machine does, the machine does -/
def zi_len (i : Instr) (b : Int) : Nat := match i with
  | .tableswitch _ _ _ _ => b.toNat
  | .lookupswitch _ _ => b.toNat
  | .bipush _ => 2
  | .ldc _ => 2
  | .iload _ => 2
  | .lload _ => 2
  | .aload _ => 2
  | .istore _ => 2
  | .lstore _ => 2
  | .astore _ => 2
  | .newarray _ => 2
  | .sipush _ => 3
  | .ldc_w _ => 3
  | .ldc2_w _ => 3
  | .iinc _ _ => 3
  | .ifCond _ _ => 3
  | .if_icmp _ _ => 3
  | .ifnull _ => 3
  | .ifnonnull _ => 3
  | .goto _ => 3
  | .getfield _ => 3
  | .putfield _ => 3
  | .new _ => 3
  | .anewarray _ => 3
  | .invokestatic _ => 3
  | .invokevirtual _ => 3
  | .invokespecial _ => 3
  | _ => 1
def zi_ck (nps : List (Nat × Nat)) (own : String) (pl : List (Nat × Nat × Nat × Int)) (ini : Bool) (cl : zC) : Bool :=
  let pc := cl.1; let a := cl.2.2.1; let b := cl.2.2.2.1; let sw := cl.2.2.2.2
  match cl.2.1 with
  | .iconst n => decide ((Int32.ofInt n).toInt = b)
  | .bipush n => decide ((Int8.ofInt n).toInt32.toInt = b)
  | .sipush n => decide ((Int16.ofInt n).toInt32.toInt = b)
  | .ldc_w i => decide ((i, 10, 0, b) ∈ pl)
  | .ldc i => decide ((i, 10, 0, b) ∈ pl)
  | .lconst n => decide ((Int64.ofNat (n : Nat)).toInt = b)
  | .ldc2_w i => decide ((i, 11, 0, b) ∈ pl)
  | .iload_n k => Nat.beq (k : Nat) a
  | .lload_n k => Nat.beq (k : Nat) a
  | .aload_n k => Nat.beq (k : Nat) a
  | .istore_n k => Nat.beq (k : Nat) a
  | .lstore_n k => Nat.beq (k : Nat) a
  | .astore_n k => Nat.beq (k : Nat) a
  | .iload k => Nat.beq k a
  | .lload k => Nat.beq k a
  | .aload k => Nat.beq k a
  | .istore k => Nat.beq k a
  | .lstore k => Nat.beq k a
  | .astore k => Nat.beq k a
  | .iinc i n => Nat.beq i a && decide (n = b ∧ -32768 ≤ n ∧ n ≤ 32767)
  | .goto off => decide ((pc : Int) + off = (a : Int))
  | .ifCond _ off => decide ((pc : Int) + off = (a : Int))
  | .if_icmp _ off => decide ((pc : Int) + off = (a : Int))
  | .ifnull off => decide ((pc : Int) + off = (a : Int))
  | .ifnonnull off => decide ((pc : Int) + off = (a : Int))
  | .tableswitch d lo hi offs => decide ((pc : Int) + d = (a : Int) ∧ lo ≤ hi ∧ (offs.size : Int) = hi - lo + 1 ∧ sw = (List.range offs.size).map (fun i : Nat => (lo + (i : Int), ((pc : Int) + offs.getD i 0).toNat)) ∧ ∀ o ∈ offs.toList, 0 ≤ (pc : Int) + o)
  | .lookupswitch d ps => decide ((pc : Int) + d = (a : Int) ∧ sw = ps.toList.map (fun q => (q.1, ((pc : Int) + q.2).toNat)) ∧ (∀ q ∈ ps.toList, 0 ≤ (pc : Int) + q.2)) && (ps.toList.zip (ps.toList.drop 1)).all (fun (x, next) => decide (x.1 < next.1))
  | .getfield i => decide ((i, 0, a, b) ∈ pl ∨ (i, 1, a, b) ∈ pl)
  | .putfield i => decide ((i, 0, a, b) ∈ pl ∨ (i, 1, a, b) ∈ pl) && (match vwCl[a]? with
    | some q => !(q.2.1 b.toNat).2.2.2 || (ini && decide (q.1 = own) && decide ((i, 0, a, b) ∈ pl))
    | none => false)
  | .iaload => Nat.beq a 12 || Nat.beq a 18
  | .aaload => Nat.ble 14 a && Nat.ble a 17
  | .aastore => Nat.ble 14 a && Nat.ble a 17 && decide (0 ≤ b) && (match vwCl[b.toNat]? with
    | some q => decide (zi_ak a = some (.object q.1))
    | none => false)
  | .arraylength => Nat.ble 12 a && Nat.ble a 18
  | .newarray t => decide (t = .int ∧ a = 12 ∨ t = .long ∧ a = 19)
  | .anewarray i => decide ((i, 9, a, 0) ∈ pl)
  | .new i => decide ((i, 8, a, b) ∈ pl)
  | .invokestatic i => (decide ((i, 2, a, b) ∈ pl ∨ (i, 3, a, b) ∈ pl) && Nat.blt a 1000 && (match nps[a]? with
      | some q => decide (sw = [((q.1 : Int), q.2)])
      | none => false)) || (decide ((i, 13, a, b) ∈ pl) && decide (sw = (if a = 1001 ∨ a = 1002 then [(2, 1)] else if a = 1003 ∨ a = 1004 then [(2, 4)] else [(5, 0)])))
  | .invokevirtual i => decide ((i, 4, a, b) ∈ pl ∨ (i, 5, a, b) ∈ pl) && Nat.blt a 1000 && (match nps[a]? with
      | some q => decide (sw = [((q.1 : Int) + 1, q.2)])
      | none => false)
  | .invokespecial i => (decide ((i, 6, a, b) ∈ pl ∨ (i, 7, a, b) ∈ pl) && Nat.blt a 1000 && (match nps[a]? with
      | some q => decide (sw = [((q.1 : Int) + 1, q.2)])
      | none => false)) || (decide ((i, 12, a, b) ∈ pl) && decide (a = 1000 ∧ sw = [(1, 0)]))
  | _ => true
theorem zi_find_mem : ∀ {code : List zC} {pc : Nat} {x : Instr × Nat × Int × List (Int × Nat)}, zi_find code pc = some x → (pc, x) ∈ code
  | [], _, _, h => by cases h
  | cl :: r, pc, x, h => by
    unfold zi_find at h
    cases hb : Nat.beq cl.1 pc with
    | true =>
      rw [hb] at h
      have h1 := Nat.eq_of_beq_eq_true hb
      cases h
      subst h1
      exact List.mem_cons_self
    | false =>
      rw [hb] at h
      exact List.mem_cons_of_mem _ (zi_find_mem h)
theorem zi_sw_cases {K : Nat → zR} {res : Int × zM} : ∀ {sw : List (Int × Nat)} {d : Nat} {x : Int}, zi_sw sw d x K = some res → (∃ q ∈ sw, x = q.1 ∧ K q.2 = some res) ∨ ((∀ q ∈ sw, x ≠ q.1) ∧ K d = some res)
  | [], d, x, h => Or.inr ⟨fun q hq => absurd hq List.not_mem_nil, h⟩
  | q :: r, d, x, h => by
    unfold zi_sw at h
    by_cases hx : x = q.1
    · rw [if_pos hx] at h
      exact Or.inl ⟨q, List.mem_cons_self, hx, h⟩
    · rw [if_neg hx] at h
      rcases zi_sw_cases h with ⟨z, h1, h2⟩ | ⟨h1, h2⟩
      · exact Or.inl ⟨z, List.mem_cons_of_mem _ h1, h2⟩
      · exact Or.inr ⟨fun z hz => by
          rcases List.mem_cons.mp hz with h3 | h3
          · rw [h3]; exact hx
          · exact h1 z h3, h2⟩
def zi_lq (σ : zM) (res : Int × zM) : Prop := σ.2.2.2.1 ≤ res.2.2.2.2.1 ∧ σ.2.2.2.2 ≤ res.2.2.2.2.2
theorem zi_lq_new {σ : zM} {res : Int × zM} {k : Nat} {n : Int} {sl : Nat} (h : zi_lq (zi_new σ k n sl) res) : zi_lq σ res ∧ σ.2.2.2.1 + 1 ≤ res.2.2.2.2.1 ∧ σ.2.2.2.2 + sl ≤ res.2.2.2.2.2 := by
  obtain ⟨h1, h2⟩ := h
  change σ.2.2.2.1 + 1 ≤ _ at h1
  change σ.2.2.2.2 + sl ≤ _ at h2
  exact ⟨⟨by omega, by omega⟩, h1, h2⟩
theorem zi_lq_refl (x : Int) (σ : zM) : zi_lq σ (x, σ) := ⟨Int.le_refl _, Nat.le_refl _⟩
theorem zi_if_cases {c : Jvm.ClassFile.Cond} {x y : Int} {A B : zR} {res : Int × zM} (h : zi_if c x y A B = some res) : A = some res ∨ B = some res := by
  unfold zi_if at h
  split at h <;> split at h <;> first | exact Or.inl h | exact Or.inr h
theorem zi_bind_cases {A : zR} {f : Int × zM → zR} {res : Int × zM} (h : A.bind f = some res) : ∃ x σ', A = some (x, σ') ∧ f (x, σ') = some res := by
  cases A with
  | none => cases h
  | some q => exact ⟨q.1, q.2, rfl, h⟩
set_option maxHeartbeats 4000000 in
theorem zi_ex_le {t : zT} {G : Nat → List zV → zM → zR} {nx : Nat → zL → List zV → zM → zR} {pc : Nat} {ls : zL} {st : List zV} {σ : zM} {res : Int × zM}
    (HGm : ∀ a vs σ x σ', G a vs σ = some (x, σ') → zi_lq σ (x, σ')) (Hm : ∀ pc' ls' st' σ', nx pc' ls' st' σ' = some res → zi_lq σ' res) (h : zi_ex t G nx pc ls st σ = some res) : zi_lq σ res := by
  have hcall : ∀ a vs rk r, ((G a vs σ).bind fun q => nx (pc + 3) ls (zi_push rk q.1 r) q.2) = some res → zi_lq σ res := by
    intro a vs rk r h
    obtain ⟨x, σ', h1, h2⟩ := zi_bind_cases h
    have h3 := HGm _ _ _ _ _ h1
    have h4 := Hm _ _ _ _ h2
    exact ⟨Int.le_trans h3.1 h4.1, Nat.le_trans h3.2 h4.2⟩
  unfold zi_ex at h
  split at h
  · cases h
  · split at h
    all_goals try (exact Hm _ _ _ _ h)
    all_goals try (cases h; done)
    all_goals (repeat' (split at h))
    all_goals try (cases h; done)
    all_goals try (exact Hm _ _ _ _ h)
    all_goals try (exact (zi_lq_new (Hm _ _ _ _ h)).1)
    all_goals try (rcases zi_if_cases h with h | h <;> exact Hm _ _ _ _ h)
    all_goals try (rcases zi_sw_cases h with ⟨q, -, -, h⟩ | ⟨-, h⟩ <;> exact Hm _ _ _ _ h)
    all_goals try (cases h; exact zi_lq_refl _ _)
    all_goals try (have h5 := Hm _ _ _ _ h; exact h5)
    all_goals (simp only [cond_eq_ite] at h)
    all_goals (repeat' (split at h))
    all_goals try (cases h; done)
    all_goals try (exact Hm _ _ _ _ h)
    all_goals exact hcall _ _ _ _ h
def zi_I (s : State) (D : va_G) (base : Nat) (σ0 σ : zM) (H : Heap) (locs : List Loc) (cells slots : Nat) : Prop := zi_W s D base σ H ∧ (∀ q ∈ locs, base ≤ q.base) ∧ cells = (σ.2.2.2.1 - σ0.2.2.2.1).toNat ∧ slots = σ.2.2.2.2 - σ0.2.2.2.2 ∧ σ0.2.2.2.1 ≤ σ.2.2.2.1 ∧ σ0.2.2.2.2 ≤ σ.2.2.2.2
def zi_endok (rk : Nat) (ins : Instr) (st : List zV) (x : Int) : Prop := (ins = .ireturn ∧ st = [.inl x] ∧ (rk = 1 ∨ (rk = 2 ∧ (x = 0 ∨ x = 1)))) ∨ (ins = .areturn ∧ st = [.inr (.inr x)] ∧ rk = 3) ∨ (ins = .return_ ∧ st = [] ∧ x = 0 ∧ rk = 0)
theorem zi_Ist {s : State} {D : va_G} {base : Nat} {σ0 σ : zM} {H H1 : Heap} {locs locs1 : List Loc} {cells slots : Nat} {σ1 : zM} (h : zi_I s D base σ0 σ H locs cells slots) (he : σ1.2.2.2 = σ.2.2.2) (hW : zi_W s D base σ1 H1) (hlo : ∀ q ∈ locs1, base ≤ q.base) : zi_I s D base σ0 σ1 H1 locs1 cells slots := ⟨hW, hlo, by rw [he]; exact h.2.2.1, by rw [he]; exact h.2.2.2.1, by rw [he]; exact h.2.2.2.2.1, by rw [he]; exact h.2.2.2.2.2⟩
theorem zi_sum {t0 t1 t2 t3 : Int} {n0 n1 n2 n3 c k X Y : Nat} (hc : c = (t1 - t0).toNat) (hk : k = n1 - n0) (h0 : t0 ≤ t1) (g0 : n0 ≤ n1) (h1 : t1 ≤ t2) (g1 : n1 ≤ n2) (h2 : t2 ≤ t3) (g2 : n2 ≤ n3) (hX : (t3 - t0).toNat ≤ X) (hY : n3 - n0 ≤ Y) : (c + (t2 - t1).toNat ≤ X ∧ k + (n2 - n1) ≤ Y) ∧ c + (t2 - t1).toNat = (t2 - t0).toNat ∧ k + (n2 - n1) = n2 - n0 ∧ t0 ≤ t2 ∧ n0 ≤ n2 := by omega
section ZS
variable {p : Program} {l : Launch} {e : Env} {R : Room} {s : State} {m : MethodId} {args : Array Value} {below : List Frame} {meth : Method} {c : Code} {H : Heap} {locs : List Loc} {cells slots : Nat} {Q : State → Prop} {D : va_G} {cc : ByteArray} {nL : Nat} {own : String} {ini : Bool} {base : Nat} {σ0 σ : zM} {recs : List zi_rec} {pc : Nat} {L : Array Slot}
def zi_G1 (l : Launch) (R : Room) (recs : List zi_rec) (G : Nat → List zV → zM → zR) : Prop := ∀ a vs σ x σ', a < 1000 → G a vs σ = some (x, σ') → (∀ v ∈ vs, zi_in v) → ∃ (r : zi_rec) (d : Nat), recs[a]? = some r ∧ zi_rok r ∧ d + 1 ≤ R.frames ∧ 38 * (d + 1) ≤ R.locals ∧ zi_Met l r d vs σ x σ'
def zi_G2 (R : Room) (G : Nat → List zV → zM → zR) : Prop := ∀ a vs σ x σ', 1000 ≤ a → G a vs σ = some (x, σ') → zi_nat a vs σ = some (x, σ') ∧ 1 ≤ R.frames ∧ 38 ≤ R.locals
def zi_G3 (G : Nat → List zV → zM → zR) : Prop := ∀ a vs σ x σ', G a vs σ = some (x, σ') → zi_lq σ (x, σ')
set_option maxHeartbeats 4000000 in
theorem zi_inv {G : Nat → List zV → zM → zR} {nx : Nat → zL → List zV → zM → zR} {ls : zL} {st rest vs : List zV} {res : Int × zM} {ins : Instr} {idx a n rk : Nat} {b : Int} {nps : List (Nat × Nat)} {q : Nat × Nat}
    (C : zi_cx p s m args meth c D cc nL own ini) (hnp : ∀ (a : Nat) (r : zi_rec) (q : Nat × Nat), recs[a]? = some r → nps[a]? = some q → q = (r.2.2.2.1, r.2.2.2.2.2.2.2)) (HG1 : zi_G1 l R recs G) (HG3 : zi_G3 G) (hroom : (res.2.2.2.2.1 - σ0.2.2.2.1).toNat ≤ R.cells ∧ res.2.2.2.2.2 - σ0.2.2.2.2 ≤ R.slots)
    (Hm : ∀ pc' ls' st' σ', nx pc' ls' st' σ' = some res → zi_lq σ' res)
    (Hnx : ∀ pc' ls' st' σ' L' H' locs' cells' slots', zi_lr ls' nL L' → (∀ v ∈ st', zi_in v) → zi_I s D base σ0 σ' H' locs' cells' slots' → nx pc' ls' st' σ' = some res → W p l e R s m args below meth c H' locs' cells' slots' Q (F0 m pc' L' (st'.map zi_v)))
    (I : zi_I s D base σ0 σ H locs cells slots) (hl : zi_lr ls nL L) (hst : ∀ v ∈ st, zi_in v) (ha : a < 1000) (hq : nps[a]? = some q) (hrk : rk = q.2)
    (hp : (ins = .invokestatic idx ∧ n = q.1 ∧ (zi_pm recs own (idx, 2, a, b) ∨ zi_pm recs own (idx, 3, a, b))) ∨ (n = q.1 + 1 ∧ (∃ y vs', vs = .inr (.inr y) :: vs' ∧ ((σ.1 y).1 : Int) = b) ∧ ((ins = .invokevirtual idx ∧ (zi_pm recs own (idx, 4, a, b) ∨ zi_pm recs own (idx, 5, a, b))) ∨ (ins = .invokespecial idx ∧ (zi_pm recs own (idx, 6, a, b) ∨ zi_pm recs own (idx, 7, a, b))))))
    (htk : zi_take n [] st = some (vs, rest)) (hcat : Nat.ble (zi_cats rest) 8 = true) (hd : decode cc pc = .ok (ins, 3))
    (h : ((G a vs σ).bind fun q => nx (pc + 3) ls (zi_push rk q.1 rest) q.2) = some res) : W p l e R s m args below meth c H locs cells slots Q (F0 m pc L (st.map zi_v)) := by
  obtain ⟨x, σ', h1, h2⟩ := zi_bind_cases h
  obtain ⟨av, e1, e2, e3⟩ := zi_take_spec htk
  rw [List.append_nil] at e1
  have hvs : ∀ v ∈ vs, zi_in v := fun v hv => hst v (by rw [e2]; exact List.mem_append_left _ (List.mem_reverse.mpr (by rw [← e1]; exact hv)))
  have hrs : ∀ v ∈ rest, zi_in v := fun v hv => hst v (by rw [e2]; exact List.mem_append_right _ hv)
  obtain ⟨r, d, hr, hok, hf, hlc, hM⟩ := HG1 _ _ _ _ _ ha h1 hvs
  have hqr := hnp a r q hr hq
  subst hqr
  have g1 := HG3 _ _ _ _ _ h1
  have g2 := Hm _ _ _ _ h2
  obtain ⟨hW, hlo, hc, hs, hb1, hb2⟩ := I
  change σ.2.2.2.1 ≤ σ'.2.2.2.1 ∧ σ.2.2.2.2 ≤ σ'.2.2.2.2 at g1
  change σ'.2.2.2.1 ≤ res.2.2.2.2.1 ∧ σ'.2.2.2.2 ≤ res.2.2.2.2.2 at g2
  have hsum := zi_sum hc hs hb1 hb2 g1.1 g1.2 g2.1 g2.2 hroom.1 hroom.2
  refine zi_invoke C hW hlo hl.2.1 hr hok hp htk (Nat.le_of_ble_eq_true hcat) hf hlc hM hsum.1 hd fun H1 locs1 k1 k2 k3 => ?_
  rw [hrk] at h2
  exact Hnx _ _ _ _ _ _ _ _ _ hl (zi_push_in k2 hrs) ⟨k1, k3, hsum.2⟩ h2
end ZS
end
section
/-! each instruction -/
theorem zi_nat0 {vs : List zV} {σ σ' : zM} {r : Int} (h : zi_nat 1000 vs σ = some (r, σ')) : (∃ y, vs = [.inr (.inr y)]) ∧ r = 0 ∧ σ' = σ := by
  unfold zi_nat at h
  split at h <;> simp_all
theorem zi_nat1 {vs : List zV} {σ σ' : zM} {r : Int} (h : zi_nat 1001 vs σ = some (r, σ')) : ∃ x y, vs = [.inl x, .inl y] ∧ r = (if x < y then y else x) ∧ σ' = σ := by
  unfold zi_nat at h
  split at h <;> simp_all
theorem zi_nat2 {vs : List zV} {σ σ' : zM} {r : Int} (h : zi_nat 1002 vs σ = some (r, σ')) : ∃ x y, vs = [.inl x, .inl y] ∧ r = (if y < x then y else x) ∧ σ' = σ := by
  unfold zi_nat at h
  split at h <;> simp_all
theorem zi_nat3 {vs : List zV} {σ σ' : zM} {r : Int} (h : zi_nat 1003 vs σ = some (r, σ')) : ∃ x y, vs = [.inr (.inl x), .inr (.inl y)] ∧ r = (if y < x then x else y) ∧ σ' = σ := by
  unfold zi_nat at h
  split at h <;> simp_all
theorem zi_nat4 {vs : List zV} {σ σ' : zM} {r : Int} (h : zi_nat 1004 vs σ = some (r, σ')) : ∃ x y, vs = [.inr (.inl x), .inr (.inl y)] ∧ r = (if y < x then y else x) ∧ σ' = σ := by
  unfold zi_nat at h
  split at h <;> simp_all
theorem zi_nat5 {vs : List zV} {σ σ' : zM} {r : Int} (h : zi_nat 1005 vs σ = some (r, σ')) : ∃ p s q d n, vs = [.inr (.inr p), .inl s, .inr (.inr q), .inl d, .inl n] ∧ (((σ.1 p).1 = 12 ∧ (σ.1 q).1 = 12) ∧ 0 ≤ s ∧ 0 ≤ d ∧ 0 ≤ n ∧ s + n ≤ (σ.1 p).2 ∧ d + n ≤ (σ.1 q).2) ∧ r = 0 ∧ σ' = (σ.1, zi_cpy σ.2.1 p q s d n, σ.2.2) := by
  unfold zi_nat at h
  split at h
  all_goals try (simp_all; done)
  rename_i p s q d n _
  split at h
  · rename_i hc
    cases h
    exact ⟨p, s, q, d, n, rfl, hc, rfl, rfl⟩
  · cases h
theorem zi_null {x : Int} (h : zi_ro x = none) : zi_v (.inr (.inr x)) = .null := by
  show va_rf (zi_ro x) = _
  rw [h]; rfl
theorem zi_ro0 {x : Int} (h : 0 ≤ x) : zi_ro x = none ↔ x = 0 := by
  unfold zi_ro
  by_cases hx : x ≤ 0
  · rw [if_pos hx]; constructor
    · intro; omega
    · intro; rfl
  · rw [if_neg hx]; constructor
    · intro q; cases q
    · intro; omega
theorem zi_ir1 : zi_ir 1 := by unfold zi_ir; omega
section ZX
variable {p : Program} {l : Launch} {e : Env} {R : Room} {s : State} {m : MethodId} {args : Array Value} {below : List Frame} {meth : Method} {c : Code} {H : Heap} {locs : List Loc} {cells slots : Nat} {Q : State → Prop} {D : va_G} {cc : ByteArray} {nL : Nat} {own : String} {ini : Bool} {base : Nat} {σ0 σ : zM} {recs : List zi_rec} {pc : Nat} {L : Array Slot}
set_option maxHeartbeats 8000000 in
set_option maxRecDepth 10000 in
theorem zi_ex_ok {t : zT} {G : Nat → List zV → zM → zR} {nx : Nat → zL → List zV → zM → zR} {ls : zL} {st : List zV} {res : Int × zM} {nps : List (Nat × Nat)} {pl : List (Nat × Nat × Nat × Int)}
    (C : zi_cx p s m args meth c D cc nL own ini) (hpl : ∀ e ∈ pl, zi_pm recs own e) (hnp : ∀ (a : Nat) (r : zi_rec) (q : Nat × Nat), recs[a]? = some r → nps[a]? = some q → q = (r.2.2.2.1, r.2.2.2.2.2.2.2)) (hwd : Jvm.Cond.arrayClass .int ∈ zi_tb ∧ Jvm.Cond.arrayClass .long ∈ zi_tb)
    (hck : ∀ cl ∈ t.1, decode cc cl.1 = .ok (cl.2.1, zi_len cl.2.1 cl.2.2.2.1) ∧ zi_ck nps own pl ini cl = true)
    (HG1 : zi_G1 l R recs G) (HG2 : zi_G2 R G) (HG3 : zi_G3 G) (hroom : (res.2.2.2.2.1 - σ0.2.2.2.1).toNat ≤ R.cells ∧ res.2.2.2.2.2 - σ0.2.2.2.2 ≤ R.slots)
    (Hm : ∀ pc' ls' st' σ', nx pc' ls' st' σ' = some res → zi_lq σ' res)
    (Hnx : ∀ pc' ls' st' σ' L' H' locs' cells' slots', zi_lr ls' nL L' → (∀ v ∈ st', zi_in v) → zi_I s D base σ0 σ' H' locs' cells' slots' → nx pc' ls' st' σ' = some res → W p l e R s m args below meth c H' locs' cells' slots' Q (F0 m pc' L' (st'.map zi_v)))
    (Hend : ∀ ins, decode cc pc = .ok (ins, 1) → zi_endok t.2.2.2 ins st res.1 → σ = res.2 → W p l e R s m args below meth c H locs cells slots Q (F0 m pc L (st.map zi_v)))
    (I : zi_I s D base σ0 σ H locs cells slots) (hl : zi_lr ls nL L) (hst : ∀ v ∈ st, zi_in v) (h : zi_ex t G nx pc ls st σ = some res) : W p l e R s m args below meth c H locs cells slots Q (F0 m pc L (st.map zi_v)) := by
  have hx := C.1
  have hb := C.2.1
  have hown := C.2.2.2.1
  have hts := C.2.2.2.2.1
  have go : ∀ pc' st', nx pc' ls st' σ = some res → (∀ v ∈ st', zi_in v) → W p l e R s m args below meth c H locs cells slots Q (F0 m pc' L (st'.map zi_v)) := fun pc' st' h2 h1 => Hnx _ _ _ _ _ _ _ _ _ hl h1 I h2
  have cons : ∀ {v : zV} {r : List zV}, zi_in v → (∀ w ∈ r, zi_in w) → ∀ w ∈ v :: r, zi_in w := fun h1 h2 => List.forall_mem_cons.mpr ⟨h1, h2⟩
  have mem : ∀ (σ1 : zM) (H1 : Heap) (locs1 : List Loc) pc' st', zi_W s D base σ1 H1 → (∀ q ∈ locs1, base ≤ q.base) → (∀ v ∈ st', zi_in v) → σ1.2.2.2 = σ.2.2.2 → nx pc' ls st' σ1 = some res → W p l e R s m args below meth c H1 locs1 cells slots Q (F0 m pc' L (st'.map zi_v)) := fun σ1 H1 locs1 pc' st' h1 h2 h3 he h4 => Hnx _ _ _ _ _ _ _ _ _ hl h3 (zi_Ist I he h1 h2) h4
  have made : ∀ (k : Nat) (n : Int) (sl : Nat) pc' st', nx pc' ls st' (zi_new σ k n sl) = some res → (∀ v ∈ st', zi_in v) → cells + 1 ≤ R.cells ∧ slots + sl ≤ R.slots ∧ ∀ H1, zi_W s D base (zi_new σ k n sl) H1 → W p l e R s m args below meth c H1 locs (cells + 1) (slots + sl) Q (F0 m pc' L (st'.map zi_v)) := by
    intro k n sl pc' st' h1 h2
    obtain ⟨-, h3, h4⟩ := zi_lq_new (Hm _ _ _ _ h1)
    obtain ⟨i1, i2, i3, i4, i5, i6⟩ := id I
    refine ⟨by omega, by omega, fun H1 hW => Hnx _ _ _ _ _ _ _ _ _ hl h2 ⟨hW, i2, ?_, ?_, ?_, ?_⟩ h1⟩
    · show cells + 1 = (σ.2.2.2.1 + 1 - σ0.2.2.2.1).toNat
      omega
    · show slots + sl = σ.2.2.2.2 + sl - σ0.2.2.2.2
      omega
    · show σ0.2.2.2.1 ≤ σ.2.2.2.1 + 1
      omega
    · show σ0.2.2.2.2 ≤ σ.2.2.2.2 + sl
      omega
  have topin : 0 ≤ σ.2.2.2.1 := by have := I.1.1; omega
  unfold zi_ex at h
  split at h
  · cases h
  rename_i ins a b sw hf
  obtain ⟨hd, hk⟩ := hck _ (zi_find_mem hf)
  split at h
  · -- iconst
    have hk : (Int32.ofInt _).toInt = b := of_decide_eq_true hk
    refine lv_iconst hx hb hd rfl ?_
    have hbi : zi_ir b := by rw [← hk]; exact zi_to_ir _
    rw [zi_eq32 hk]
    exact go _ (.inl b :: st) h (cons hbi hst)
  · -- bipush
    have hk : ((Int8.ofInt _).toInt32).toInt = b := of_decide_eq_true hk
    refine lv_bipush hx hb hd rfl ?_
    have hbi : zi_ir b := by rw [← hk]; exact zi_to_ir _
    rw [zi_eq32 hk]
    exact go _ (.inl b :: st) h (cons hbi hst)
  · -- sipush
    have hk : ((Int16.ofInt _).toInt32).toInt = b := of_decide_eq_true hk
    refine lv_sipush hx hb hd rfl ?_
    have hbi : zi_ir b := by rw [← hk]; exact zi_to_ir _
    rw [zi_eq32 hk]
    exact go _ (.inl b :: st) h (cons hbi hst)
  · -- ldc_w
    obtain ⟨h1, h2⟩ := hpl _ (of_decide_eq_true hk)
    exact lv_ldcw hx hb hown (hts _ h1) hd (go _ (.inl b :: st) h (cons h2 hst))
  · -- lconst
    have hk : (Int64.ofNat _).toInt = b := of_decide_eq_true hk
    refine lv_lconst hx hb hd rfl ?_
    have hbi : zi_in (.inr (.inl b)) := by rw [← hk]; exact zi_tl_in _
    rw [zi_eq64 hk]
    exact go _ (.inr (.inl b) :: st) h (cons hbi hst)
  · -- ldc2_w
    obtain ⟨h1, h2⟩ := hpl _ (of_decide_eq_true hk)
    exact lv_ldc2 hx hb hown (hts _ h1) hd (go _ (.inr (.inl b) :: st) h (cons h2 hst))
  · -- ldc
    obtain ⟨h1, h2⟩ := hpl _ (of_decide_eq_true hk)
    exact lv_ldc hx hb hown (hts _ h1) hd (go _ (.inl b :: st) h (cons h2 hst))
  · -- aconst_null
    exact lv_null hx hb hd (go _ (.inr (.inr 0) :: st) h (cons (Int.le_refl 0) hst))
  · -- iload_n
    split at h
    · rename_i x hg
      obtain ⟨g1, g2⟩ := hl.2.2.2 _ _ hg
      exact lv_iload_n hx hb hd (Nat.eq_of_beq_eq_true hk) g1 (go _ (.inl x :: st) h (cons g2 hst))
    · cases h
  · -- iload
    split at h
    · rename_i x hg
      obtain ⟨g1, g2⟩ := hl.2.2.2 _ _ hg
      have hk := Nat.eq_of_beq_eq_true hk
      subst hk
      exact lv_iload hx hb hd g1 (go _ (.inl x :: st) h (cons g2 hst))
    · cases h
  · -- lload_n
    split at h
    · rename_i x hg
      obtain ⟨g1, g2⟩ := hl.2.2.2 _ _ hg
      exact lv_lload_n hx hb hd (Nat.eq_of_beq_eq_true hk) g1 (go _ (.inr (.inl x) :: st) h (cons g2 hst))
    · cases h
  · -- lload
    split at h
    · rename_i x hg
      obtain ⟨g1, g2⟩ := hl.2.2.2 _ _ hg
      have hk := Nat.eq_of_beq_eq_true hk
      subst hk
      exact lv_lload hx hb hd g1 (go _ (.inr (.inl x) :: st) h (cons g2 hst))
    · cases h
  · -- aload_n
    split at h
    · rename_i x hg
      obtain ⟨g1, g2⟩ := hl.2.2.2 _ _ hg
      have g3 := go _ (.inr (.inr x) :: st) h (cons g2 hst)
      rw [List.map_cons] at g3
      cases hr : zi_ro x with
      | none =>
        rw [zi_null hr] at g1 g3
        exact lv_aload_nN hx hb hd (Nat.eq_of_beq_eq_true hk) g1 g3
      | some y =>
        rw [zi_vr hr] at g1 g3
        exact lv_aload_n hx hb hd (Nat.eq_of_beq_eq_true hk) g1 g3
    · cases h
  · -- aload
    split at h
    · rename_i x hg
      obtain ⟨g1, g2⟩ := hl.2.2.2 _ _ hg
      have g3 := go _ (.inr (.inr x) :: st) h (cons g2 hst)
      rw [List.map_cons] at g3
      have hk := Nat.eq_of_beq_eq_true hk
      subst hk
      cases hr : zi_ro x with
      | none =>
        rw [zi_null hr] at g1 g3
        exact lv_aloadN hx hb hd g1 g3
      | some y =>
        rw [zi_vr hr] at g1 g3
        exact lv_aload hx hb hd g1 g3
    · cases h
  · -- istore_n
    split at h
    · rename_i x r
      split at h
      · rename_i ls' hs
        exact lv_istore_n hx hb hd (Nat.eq_of_beq_eq_true hk) (zi_lr_has hl) (by rw [← hl.1]; exact (zi_set_spec hs).2.1) rfl fun L' hL' => Hnx _ _ _ _ _ _ _ _ _ (zi_lr_set1 hl hs (hst _ List.mem_cons_self) hL') (fun v hv => hst v (List.mem_cons_of_mem _ hv)) I h
      · cases h
    · cases h
  · -- istore
    split at h
    · rename_i x r
      split at h
      · rename_i ls' hs
        have hk := Nat.eq_of_beq_eq_true hk
        subst hk
        exact lv_istore hx hb hd (zi_lr_has hl) (by rw [← hl.1]; exact (zi_set_spec hs).2.1) rfl fun L' hL' => Hnx _ _ _ _ _ _ _ _ _ (zi_lr_set1 hl hs (hst _ List.mem_cons_self) hL') (fun v hv => hst v (List.mem_cons_of_mem _ hv)) I h
      · cases h
    · cases h
  · -- astore_n
    split at h
    · rename_i x r
      split at h
      · rename_i ls' hs
        rw [List.map_cons]
        have hlt : a < nL := by rw [← hl.1]; exact (zi_set_spec hs).2.1
        cases hr : zi_ro x with
        | none =>
          rw [zi_null hr]
          exact lv_astore_nN hx hb hd (Nat.eq_of_beq_eq_true hk) (zi_lr_has hl) hlt rfl fun L' hL' => Hnx _ _ _ _ _ _ _ _ _ (zi_lr_set1 hl hs (hst _ List.mem_cons_self) (by rw [zi_null hr]; exact hL')) (fun v hv => hst v (List.mem_cons_of_mem _ hv)) I h
        | some y =>
          rw [zi_vr hr]
          exact lv_astore_n hx hb hd (Nat.eq_of_beq_eq_true hk) (zi_lr_has hl) hlt rfl fun L' hL' => Hnx _ _ _ _ _ _ _ _ _ (zi_lr_set1 hl hs (hst _ List.mem_cons_self) (by rw [zi_vr hr]; exact hL')) (fun v hv => hst v (List.mem_cons_of_mem _ hv)) I h
      · cases h
    · cases h
  · -- astore
    split at h
    · rename_i x r
      split at h
      · rename_i ls' hs
        rw [List.map_cons]
        have hk := Nat.eq_of_beq_eq_true hk
        subst hk
        have hlt := (zi_set_spec hs).2.1
        rw [hl.1] at hlt
        cases hr : zi_ro x with
        | none =>
          rw [zi_null hr]
          exact lv_astoreN hx hb hd (zi_lr_has hl) hlt rfl fun L' hL' => Hnx _ _ _ _ _ _ _ _ _ (zi_lr_set1 hl hs (hst _ List.mem_cons_self) (by rw [zi_null hr]; exact hL')) (fun v hv => hst v (List.mem_cons_of_mem _ hv)) I h
        | some y =>
          rw [zi_vr hr]
          exact lv_astore hx hb hd (zi_lr_has hl) hlt rfl fun L' hL' => Hnx _ _ _ _ _ _ _ _ _ (zi_lr_set1 hl hs (hst _ List.mem_cons_self) (by rw [zi_vr hr]; exact hL')) (fun v hv => hst v (List.mem_cons_of_mem _ hv)) I h
      · cases h
    · cases h
  · -- lstore_n
    split at h
    · rename_i x r
      split at h
      · rename_i l1 hs1
        split at h
        · rename_i l2 hs2
          exact lv_lstore_n hx hb hd (Nat.eq_of_beq_eq_true hk) (zi_lr_has hl) (by rw [← hl.1]; exact (zi_set_spec hs1).2.1) rfl fun L' hL' => Hnx _ _ _ _ _ _ _ _ _ (zi_lr_set2 hl hs1 hs2 (hst _ List.mem_cons_self) hL') (fun v hv => hst v (List.mem_cons_of_mem _ hv)) I h
        · cases h
      · cases h
    · cases h
  · -- lstore
    split at h
    · rename_i x r
      split at h
      · rename_i l1 hs1
        split at h
        · rename_i l2 hs2
          have hk := Nat.eq_of_beq_eq_true hk
          subst hk
          exact lv_lstore hx hb hd (zi_lr_has hl) (by rw [← hl.1]; exact (zi_set_spec hs1).2.1) rfl fun L' hL' => Hnx _ _ _ _ _ _ _ _ _ (zi_lr_set2 hl hs1 hs2 (hst _ List.mem_cons_self) hL') (fun v hv => hst v (List.mem_cons_of_mem _ hv)) I h
        · cases h
      · cases h
    · cases h
  · -- iinc
    rename_i i n
    have hk1 : (Nat.beq i a && decide (n = b ∧ -32768 ≤ n ∧ n ≤ 32767)) = true := hk
    rw [Bool.and_eq_true] at hk1
    have hk2 := Nat.eq_of_beq_eq_true hk1.1
    obtain ⟨e1, e2, e3⟩ : n = b ∧ -32768 ≤ n ∧ n ≤ 32767 := of_decide_eq_true hk1.2
    subst hk2; subst e1
    split at h
    · rename_i x hg
      split at h
      · rename_i ls' hs
        obtain ⟨g1, g2⟩ := hl.2.2.2 _ _ hg
        obtain ⟨k, hk⟩ := List.getElem?_of_mem (zi_ll_mem.mpr ⟨_, hg, rfl⟩ : (i, zi_v (.inl x)) ∈ zi_ll ls)
        exact lv_iinc hx hb hd (zi_lr_has hl) hk (zi_add g2 (by unfold zi_ir; omega)) (by rw [← hl.1]; exact (zi_set_spec hs).2.1) rfl fun L' hL' => Hnx _ _ _ _ _ _ _ _ _ (zi_lr_set1 hl hs (zi_w_ir _) hL') hst I h
      · cases h
    · cases h
  · -- iadd
    split at h
    · rename_i y x r
      have iy : zi_ir y := hst _ List.mem_cons_self
      have ix : zi_ir x := hst _ (List.mem_cons_of_mem _ List.mem_cons_self)
      have g := go _ (.inl (zi_w (x + y)) :: r) h (cons (zi_w_ir _) fun v hv => hst v (List.mem_cons_of_mem _ (List.mem_cons_of_mem _ hv)))
      rw [List.map_cons, zi_v, ← zi_add ix iy] at g
      exact lv_iadd hx hb hd g
    · cases h
  · -- isub
    split at h
    · rename_i y x r
      have iy : zi_ir y := hst _ List.mem_cons_self
      have ix : zi_ir x := hst _ (List.mem_cons_of_mem _ List.mem_cons_self)
      have g := go _ (.inl (zi_w (x - y)) :: r) h (cons (zi_w_ir _) fun v hv => hst v (List.mem_cons_of_mem _ (List.mem_cons_of_mem _ hv)))
      rw [List.map_cons, zi_v, ← zi_sub ix iy] at g
      exact lv_isub hx hb hd g
    · cases h
  · -- imul
    split at h
    · rename_i y x r
      have iy : zi_ir y := hst _ List.mem_cons_self
      have ix : zi_ir x := hst _ (List.mem_cons_of_mem _ List.mem_cons_self)
      have g := go _ (.inl (zi_w (x * y)) :: r) h (cons (zi_w_ir _) fun v hv => hst v (List.mem_cons_of_mem _ (List.mem_cons_of_mem _ hv)))
      rw [List.map_cons, zi_v, ← zi_mul ix iy] at g
      exact lv_imul hx hb hd g
    · cases h
  · -- idiv
    split at h
    · rename_i y x r
      split at h
      · cases h
      rename_i hy0
      have iy : zi_ir y := hst _ List.mem_cons_self
      have ix : zi_ir x := hst _ (List.mem_cons_of_mem _ List.mem_cons_self)
      have g := go _ (.inl (zi_div x y) :: r) h (cons (zi_w_ir _) fun v hv => hst v (List.mem_cons_of_mem _ (List.mem_cons_of_mem _ hv)))
      rw [List.map_cons, zi_v, ← zi_divE ix iy] at g
      exact lv_idiv hx hb hd (by rw [zi_z, zi_eq iy zi_ir0]; exact hy0) g
    · cases h
  · -- irem
    split at h
    · rename_i y x r
      split at h
      · cases h
      rename_i hy0
      have iy : zi_ir y := hst _ List.mem_cons_self
      have ix : zi_ir x := hst _ (List.mem_cons_of_mem _ List.mem_cons_self)
      have g := go _ (.inl (zi_rem x y) :: r) h (cons (zi_w_ir _) fun v hv => hst v (List.mem_cons_of_mem _ (List.mem_cons_of_mem _ hv)))
      rw [List.map_cons, zi_v, ← zi_remE ix iy] at g
      exact lv_irem hx hb hd (by rw [zi_z, zi_eq iy zi_ir0]; exact hy0) g
    · cases h
  · -- iand
    split at h
    · rename_i y x r
      have g := go _ (.inl (zi_and x y) :: r) h (cons (zi_and_ir _ _) fun v hv => hst v (List.mem_cons_of_mem _ (List.mem_cons_of_mem _ hv)))
      rw [List.map_cons, zi_v, ← zi_andE] at g
      exact lv_iand hx hb hd g
    · cases h
  · -- ixor
    split at h
    · rename_i y x r
      have g := go _ (.inl (zi_xor x y) :: r) h (cons (zi_xor_ir _ _) fun v hv => hst v (List.mem_cons_of_mem _ (List.mem_cons_of_mem _ hv)))
      rw [List.map_cons, zi_v, ← zi_xorE] at g
      exact lv_ixor hx hb hd g
    · cases h
  · -- ishr
    split at h
    · rename_i y x r
      have g := go _ (.inl (zi_shr x y) :: r) h (cons (zi_shr_ir _ _) fun v hv => hst v (List.mem_cons_of_mem _ (List.mem_cons_of_mem _ hv)))
      rw [List.map_cons, zi_v, ← zi_shrE] at g
      exact lv_ishr hx hb hd g
    · cases h
  · -- ladd
    split at h
    · rename_i y x r
      have iy := hst _ List.mem_cons_self
      have ix := hst _ (List.mem_cons_of_mem _ List.mem_cons_self)
      have g := go _ (.inr (.inl (zi_w64 (x + y))) :: r) h (cons (zi_w64_in _) fun v hv => hst v (List.mem_cons_of_mem _ (List.mem_cons_of_mem _ hv)))
      rw [List.map_cons, zi_v, ← zi_ladd ix iy] at g
      exact lv_ladd hx hb hd g
    · cases h
  · -- lsub
    split at h
    · rename_i y x r
      have iy := hst _ List.mem_cons_self
      have ix := hst _ (List.mem_cons_of_mem _ List.mem_cons_self)
      have g := go _ (.inr (.inl (zi_w64 (x - y))) :: r) h (cons (zi_w64_in _) fun v hv => hst v (List.mem_cons_of_mem _ (List.mem_cons_of_mem _ hv)))
      rw [List.map_cons, zi_v, ← zi_lsub ix iy] at g
      exact lv_lsub hx hb hd g
    · cases h
  · -- land
    split at h
    · rename_i y x r
      have g := go _ (.inr (.inl (zi_land x y)) :: r) h (cons (zi_tl_in _) fun v hv => hst v (List.mem_cons_of_mem _ (List.mem_cons_of_mem _ hv)))
      rw [List.map_cons, zi_v, ← zi_landE] at g
      exact lv_land hx hb hd g
    · cases h
  · -- lor
    split at h
    · rename_i y x r
      have g := go _ (.inr (.inl (zi_lor x y)) :: r) h (cons (zi_tl_in _) fun v hv => hst v (List.mem_cons_of_mem _ (List.mem_cons_of_mem _ hv)))
      rw [List.map_cons, zi_v, ← zi_lorE] at g
      exact lv_lor hx hb hd g
    · cases h
  · -- lxor
    split at h
    · rename_i y x r
      have g := go _ (.inr (.inl (zi_lxor x y)) :: r) h (cons (zi_tl_in _) fun v hv => hst v (List.mem_cons_of_mem _ (List.mem_cons_of_mem _ hv)))
      rw [List.map_cons, zi_v, ← zi_lxorE] at g
      exact lv_lxor hx hb hd g
    · cases h
  · -- lshl
    split at h
    · rename_i y x r
      exact lv_lshl hx hb hd (zi_lshlE x y) (go _ (.inr (.inl (zi_lshl x y)) :: r) h (cons (zi_tl_in _) fun v hv => hst v (List.mem_cons_of_mem _ (List.mem_cons_of_mem _ hv))))
    · cases h
  · -- lcmp
    split at h
    · rename_i y x r
      have iy := hst _ List.mem_cons_self
      have ix := hst _ (List.mem_cons_of_mem _ List.mem_cons_self)
      have g := go _ (.inl (if y < x then 1 else if x = y then 0 else -1) :: r) h (cons (by
        show zi_ir _
        unfold zi_ir
        split
        · omega
        · split <;> omega) fun v hv => hst v (List.mem_cons_of_mem _ (List.mem_cons_of_mem _ hv)))
      rw [List.map_cons, zi_v, ← zi_cmp ix iy] at g
      exact W.lcmp hx hb hd g
    · cases h
  · -- i2l
    split at h
    · rename_i x r
      have ix : zi_ir x := hst _ List.mem_cons_self
      exact lv_i2l hx hb hd (zi_i2l ix) (go _ (.inr (.inl x) :: r) h (cons (zi_i2l_in ix) fun v hv => hst v (List.mem_cons_of_mem _ hv)))
    · cases h
  · -- l2i
    split at h
    · rename_i x r
      have ix := hst _ List.mem_cons_self
      exact lv_l2i hx hb hd (zi_l2i ix) (go _ (.inl (zi_w x) :: r) h (cons (zi_w_ir _) fun v hv => hst v (List.mem_cons_of_mem _ hv)))
    · cases h
  · -- i2b
    split at h
    · rename_i x r
      exact lv_i2b hx hb hd (zi_i2bE x) (go _ (.inl (zi_i2b x) :: r) h (cons (zi_to_ir _) fun v hv => hst v (List.mem_cons_of_mem _ hv)))
    · cases h
  · -- i2c
    split at h
    · rename_i x r
      exact lv_i2c hx hb hd (zi_i2cE x) (go _ (.inl (zi_i2c x) :: r) h (cons (zi_to_ir _) fun v hv => hst v (List.mem_cons_of_mem _ hv)))
    · cases h
  · -- i2s
    split at h
    · rename_i x r
      exact lv_i2s hx hb hd (zi_i2sE x) (go _ (.inl (zi_i2s x) :: r) h (cons (zi_to_ir _) fun v hv => hst v (List.mem_cons_of_mem _ hv)))
    · cases h
  · -- dup
    split at h
    · rename_i v r
      rw [cond_eq_ite] at h
      split at h
      · rename_i hc
        exact lv_dup hx hb hd (zi_v_cat1 hc) (go _ (v :: v :: r) h (cons (hst _ List.mem_cons_self) hst))
      · cases h
    · cases h
  · -- dup2
    split at h
    · rename_i v w r
      rw [cond_eq_ite] at h
      split at h
      · rename_i hc
        rw [Bool.and_eq_true] at hc
        exact lv_dup2_11 hx hb hd (zi_v_cat1 hc.1) (zi_v_cat1 hc.2) (go _ (v :: w :: v :: w :: r) h (cons (hst _ List.mem_cons_self) (cons (hst _ (List.mem_cons_of_mem _ List.mem_cons_self)) hst)))
      · cases h
    · cases h
  · -- pop
    split at h
    · rename_i v r
      rw [cond_eq_ite] at h
      split at h
      · rename_i hc
        exact lv_pop hx hb hd (zi_v_cat1 hc) (go _ r h fun v hv => hst v (List.mem_cons_of_mem _ hv))
      · cases h
    · cases h
  · -- ifCond
    rename_i cd off
    have hkk : (pc : Int) + off = (a : Int) := of_decide_eq_true hk
    split at h
    · rename_i x r
      have ix : zi_ir x := hst _ List.mem_cons_self
      have ir : ∀ v ∈ r, zi_in v := fun v hv => hst v (List.mem_cons_of_mem _ hv)
      cases cd <;> (simp only [zi_if] at h)
      · refine lv_if_eq hx hb hd hkk (fun q => ?_) (fun q => ?_) <;> rw [zi_z, zi_eq ix zi_ir0] at q
        · rw [if_pos q] at h; exact go _ r h ir
        · rw [if_neg q] at h; exact go _ r h ir
      · refine lv_if_ne hx hb hd hkk (fun q => ?_) (fun q => ?_) <;> rw [zi_z, zi_eq ix zi_ir0] at q
        · rw [if_neg q] at h; exact go _ r h ir
        · rw [if_pos q] at h; exact go _ r h ir
      · refine lv_if_lt hx hb hd hkk (fun q => ?_) (fun q => ?_) <;> rw [zi_z, zi_lt ix zi_ir0] at q
        · rw [if_pos q] at h; exact go _ r h ir
        · rw [if_neg q] at h; exact go _ r h ir
      · refine lv_if_ge hx hb hd hkk (fun q => ?_) (fun q => ?_) <;> rw [zi_z, zi_le zi_ir0 ix] at q
        · rw [if_neg (by omega)] at h; exact go _ r h ir
        · rw [if_pos (by omega)] at h; exact go _ r h ir
      · refine lv_if_gt hx hb hd hkk (fun q => ?_) (fun q => ?_) <;> rw [zi_z, zi_lt zi_ir0 ix] at q
        · rw [if_pos q] at h; exact go _ r h ir
        · rw [if_neg q] at h; exact go _ r h ir
      · refine lv_if_le hx hb hd hkk (fun q => ?_) (fun q => ?_) <;> rw [zi_z, zi_le ix zi_ir0] at q
        · rw [if_neg (by omega)] at h; exact go _ r h ir
        · rw [if_pos (by omega)] at h; exact go _ r h ir
    · cases h
  · -- if_icmp
    rename_i cd off
    have hkk : (pc : Int) + off = (a : Int) := of_decide_eq_true hk
    split at h
    · rename_i y x r
      have iy : zi_ir y := hst _ List.mem_cons_self
      have ix : zi_ir x := hst _ (List.mem_cons_of_mem _ List.mem_cons_self)
      have ir : ∀ v ∈ r, zi_in v := fun v hv => hst v (List.mem_cons_of_mem _ (List.mem_cons_of_mem _ hv))
      cases cd <;> (simp only [zi_if] at h)
      · refine lv_icmp_eq hx hb hd hkk (fun q => ?_) (fun q => ?_) <;> rw [zi_eq ix iy] at q
        · rw [if_pos q] at h; exact go _ r h ir
        · rw [if_neg q] at h; exact go _ r h ir
      · refine lv_icmp_ne hx hb hd hkk (fun q => ?_) (fun q => ?_) <;> rw [zi_eq ix iy] at q
        · rw [if_neg q] at h; exact go _ r h ir
        · rw [if_pos q] at h; exact go _ r h ir
      · refine lv_icmp_lt hx hb hd hkk (fun q => ?_) (fun q => ?_) <;> rw [zi_lt ix iy] at q
        · rw [if_pos q] at h; exact go _ r h ir
        · rw [if_neg q] at h; exact go _ r h ir
      · refine lv_icmp_ge hx hb hd hkk (fun q => ?_) (fun q => ?_) <;> rw [zi_le iy ix] at q
        · rw [if_neg (by omega)] at h; exact go _ r h ir
        · rw [if_pos (by omega)] at h; exact go _ r h ir
      · refine lv_icmp_gt hx hb hd hkk (fun q => ?_) (fun q => ?_) <;> rw [zi_lt iy ix] at q
        · rw [if_pos q] at h; exact go _ r h ir
        · rw [if_neg q] at h; exact go _ r h ir
      · refine lv_icmp_le hx hb hd hkk (fun q => ?_) (fun q => ?_) <;> rw [zi_le ix iy] at q
        · rw [if_neg (by omega)] at h; exact go _ r h ir
        · rw [if_pos (by omega)] at h; exact go _ r h ir
    · cases h
  · -- ifnull
    have hk : (pc : Int) + _ = (a : Int) := of_decide_eq_true hk
    split at h
    · rename_i x r
      have ix : 0 ≤ x := hst _ List.mem_cons_self
      have ir : ∀ v ∈ r, zi_in v := fun v hv => hst v (List.mem_cons_of_mem _ hv)
      rw [List.map_cons]
      cases hr : zi_ro x with
      | none =>
        rw [if_pos ((zi_ro0 ix).mp hr)] at h
        rw [zi_null hr]
        exact lv_ifnullN hx hb hd hk (go _ r h ir)
      | some y =>
        rw [if_neg (fun q => by rw [(zi_ro0 ix).mpr q] at hr; cases hr)] at h
        rw [zi_vr hr]
        exact lv_ifnull hx hb hd (go _ r h ir)
    · cases h
  · -- ifnonnull
    have hk : (pc : Int) + _ = (a : Int) := of_decide_eq_true hk
    split at h
    · rename_i x r
      have ix : 0 ≤ x := hst _ List.mem_cons_self
      have ir : ∀ v ∈ r, zi_in v := fun v hv => hst v (List.mem_cons_of_mem _ hv)
      rw [List.map_cons]
      cases hr : zi_ro x with
      | none =>
        rw [if_pos ((zi_ro0 ix).mp hr)] at h
        rw [zi_null hr]
        exact lv_ifnonnullN hx hb hd (go _ r h ir)
      | some y =>
        rw [if_neg (fun q => by rw [(zi_ro0 ix).mpr q] at hr; cases hr)] at h
        rw [zi_vr hr]
        exact lv_ifnonnull hx hb hd hk (go _ r h ir)
    · cases h
  · -- goto
    exact lv_goto hx hb hd (of_decide_eq_true hk) (go _ st h hst)
  · -- tableswitch
    rename_i d lo hi offs
    obtain ⟨h1, h2, h3, h4, h5⟩ : (pc : Int) + d = (a : Int) ∧ lo ≤ hi ∧ (offs.size : Int) = hi - lo + 1 ∧ sw = (List.range offs.size).map (fun i : Nat => (lo + (i : Int), ((pc : Int) + offs.getD i 0).toNat)) ∧ ∀ o ∈ offs.toList, 0 ≤ (pc : Int) + o := of_decide_eq_true hk
    split at h
    · rename_i x r
      have ix : zi_ir x := hst _ List.mem_cons_self
      have ir : ∀ v ∈ r, zi_in v := fun v hv => hst v (List.mem_cons_of_mem _ hv)
      rcases zi_sw_cases h with ⟨q, hq, hxq, h⟩ | ⟨hno, h⟩
      · rw [h4] at hq
        obtain ⟨i, hi, rfl⟩ := List.mem_map.mp hq
        have hi' := List.mem_range.mp hi
        change x = lo + (i : Int) at hxq
        have hoi : offs[i]? = some offs[i] := Array.getElem?_eq_getElem hi'
        have hge := h5 offs[i] (Array.mem_toList_iff.mpr (Array.getElem_mem hi'))
        have hgd : offs.getD i 0 = offs[i] := by rw [Array.getD_eq_getD_getElem?, hoi]; rfl
        refine lv_tableIn (x := Int32.ofInt x) (off := offs[i]) (tgt := ((pc : Int) + offs.getD i 0).toNat) hx hb hd (by rw [zi_oi' ix]; omega) (by rw [zi_oi' ix]; omega) (by rw [zi_oi' ix, show (x - lo).toNat = i by omega]; exact hoi) (by rw [hgd]; omega) (go _ r h ir)
      · refine lv_tableOut (x := Int32.ofInt x) hx hb hd ?_ h1 (go _ r h ir)
        rw [zi_oi' ix]
        by_cases hc : x < lo ∨ hi < x
        · exact hc
        · exfalso
          have hlt : (x - lo).toNat < offs.size := by omega
          refine hno (lo + ((x - lo).toNat : Int), ((pc : Int) + offs.getD (x - lo).toNat 0).toNat) (by rw [h4]; exact List.mem_map.mpr ⟨(x - lo).toNat, List.mem_range.mpr hlt, rfl⟩) ?_
          show x = lo + ((x - lo).toNat : Int)
          omega
    · cases h
  · -- lookupswitch
    rename_i d ps
    have hk1 : (decide ((pc : Int) + d = (a : Int) ∧ sw = ps.toList.map (fun q => (q.1, ((pc : Int) + q.2).toNat)) ∧ (∀ q ∈ ps.toList, 0 ≤ (pc : Int) + q.2)) && (ps.toList.zip (ps.toList.drop 1)).all (fun (x, next) => decide (x.1 < next.1))) = true := hk
    rw [Bool.and_eq_true] at hk1
    obtain ⟨h1, h4, h5⟩ := of_decide_eq_true hk1.1
    split at h
    · rename_i x r
      have ix : zi_ir x := hst _ List.mem_cons_self
      have ir : ∀ v ∈ r, zi_in v := fun v hv => hst v (List.mem_cons_of_mem _ hv)
      rw [h4] at h
      obtain ⟨tgt, off, g1, g2, g3⟩ : ∃ (tgt : Nat) (off : Int), Op.lookupswitch.offset ps.toList d x = off ∧ (pc : Int) + off = (tgt : Int) ∧ nx tgt ls r σ = some res := by
        clear hk hk1 hd hf h4
        generalize ps.toList = lst at h h5 ⊢
        induction lst with
        | nil => exact ⟨a, d, rfl, h1, h⟩
        | cons q w ih =>
          rw [List.map_cons] at h
          unfold zi_sw at h
          by_cases hxq : x = q.1
          · rw [if_pos hxq] at h
            refine ⟨_, q.2, ?_, ?_, h⟩
            · unfold Op.lookupswitch.offset
              simp [hxq]
            · have := h5 q List.mem_cons_self
              omega
          · rw [if_neg hxq] at h
            obtain ⟨tgt, off, g1, g2, g3⟩ := ih h (fun z hz => h5 z (List.mem_cons_of_mem _ hz))
            refine ⟨tgt, off, ?_, g2, g3⟩
            rw [← g1]
            obtain ⟨q1, q2⟩ := q
            have hne : ¬ q1 = x := fun z => hxq z.symm
            show lookupswitch.offset ((q1, q2) :: w) d x = lookupswitch.offset w d x
            rw [lookupswitch.offset, if_neg hne]
      exact lv_lookup (x := Int32.ofInt x) hx hb hd hk1.2 (by rw [zi_oi' ix]; exact g1) g2 (go _ r g3 ir)
    · cases h
  · -- getfield
    have hk := of_decide_eq_true hk
    split at h
    · rename_i x r
      split at h
      · rename_i hkd
        have ir : ∀ v ∈ r, zi_in v := fun v hv => hst v (List.mem_cons_of_mem _ hv)
        exact zi_getf C I.1 (hk.imp (hpl _) (hpl _)) hkd hd fun hv => go _ (_ :: r) h (cons hv ir)
      · cases h
    · cases h
  · -- putfield
    rename_i idx
    have hk1 : (decide ((idx, 0, a, b) ∈ pl ∨ (idx, 1, a, b) ∈ pl) && (match vwCl[a]? with
      | some q => !(q.2.1 b.toNat).2.2.2 || (ini && decide (q.1 = own) && decide ((idx, 0, a, b) ∈ pl))
      | none => false)) = true := hk
    rw [Bool.and_eq_true] at hk1
    have hk2 := of_decide_eq_true hk1.1
    have hfin : ∀ q, vwCl[a]? = some q → (q.2.1 b.toNat).2.2.2 = false ∨ (ini = true ∧ q.1 = own ∧ zi_pm recs own (idx, 0, a, b)) := by
      intro q hq
      have h1 := hk1.2
      rw [hq] at h1
      simp only [Bool.or_eq_true, Bool.not_eq_true', Bool.and_eq_true, decide_eq_true_eq] at h1
      rcases h1 with h1 | ⟨⟨h1, h2⟩, h3⟩
      · exact Or.inl h1
      · exact Or.inr ⟨h1, h2, hpl _ h3⟩
    split at h
    · rename_i hft
      split at h
      · rename_i v x r
        split at h
        · rename_i hkd
          have ir : ∀ w ∈ r, zi_in w := fun w hw => hst w (List.mem_cons_of_mem _ (List.mem_cons_of_mem _ hw))
          have iv : zi_ir v := hst _ List.mem_cons_self
          have ev : zi_v (zi_mkv (zi_ft a b.toNat) v) = .int (Int32.ofInt v) := by rw [hft]; rfl
          have g := zi_putf (l := l) (e := e) (R := R) (below := below) (cells := cells) (slots := slots) (Q := Q) (L := L) (rest := r.map zi_v) C I.1 I.2.1 (hk2.imp (hpl _) (hpl _)) hfin hkd (fun q => by rw [hft] at q; cases q) (v := v) (by rw [hft]; exact iv) hd (fun H1 locs1 g1 g2 => mem (zi_wr σ x b v) H1 locs1 _ r (by rw [hft] at g1; exact g1) g2 ir rfl h)
          rw [ev] at g
          exact g
        · cases h
      · cases h
    · rename_i hft
      split at h
      · rename_i v x r
        split at h
        · rename_i hkd
          have ir : ∀ w ∈ r, zi_in w := fun w hw => hst w (List.mem_cons_of_mem _ (List.mem_cons_of_mem _ hw))
          have iv : zi_ir v := hst _ List.mem_cons_self
          have ev : zi_v (zi_mkv (zi_ft a b.toNat) v) = .int (Int32.ofInt v) := by rw [hft]; rfl
          have g := zi_putf (l := l) (e := e) (R := R) (below := below) (cells := cells) (slots := slots) (Q := Q) (L := L) (rest := r.map zi_v) C I.1 I.2.1 (hk2.imp (hpl _) (hpl _)) hfin hkd.1 (fun _ => hkd.2) (v := v) (by rw [hft]; exact iv) hd (fun H1 locs1 g1 g2 => mem (zi_wr σ x b v) H1 locs1 _ r (by rw [hft] at g1; exact g1) g2 ir rfl h)
          rw [ev] at g
          exact g
        · cases h
      · cases h
    · rename_i hft
      split at h
      · rename_i v x r
        split at h
        · rename_i hkd
          have ir : ∀ w ∈ r, zi_in w := fun w hw => hst w (List.mem_cons_of_mem _ (List.mem_cons_of_mem _ hw))
          have iv : zi_in (.inr (.inr v)) := hst _ List.mem_cons_self
          have ev : zi_v (zi_mkv (zi_ft a b.toNat) v) = zi_v (.inr (.inr v)) := by rw [hft]; rfl
          have g := zi_putf (l := l) (e := e) (R := R) (below := below) (cells := cells) (slots := slots) (Q := Q) (L := L) (rest := r.map zi_v) C I.1 I.2.1 (hk2.imp (hpl _) (hpl _)) hfin hkd (fun q => by rw [hft] at q; cases q) (v := v) (by rw [hft]; exact iv) hd (fun H1 locs1 g1 g2 => mem (zi_wq σ x b v) H1 locs1 _ r (by rw [hft] at g1; exact g1) g2 ir rfl h)
          rw [ev] at g
          exact g
        · cases h
      · cases h
    · cases h
  · -- iaload
    have hk1 : (Nat.beq a 12 || Nat.beq a 18) = true := hk
    rw [Bool.or_eq_true] at hk1
    split at h
    · rename_i j x r
      split at h
      · rename_i hc
        have ij : zi_ir j := hst _ List.mem_cons_self
        have ir : ∀ v ∈ r, zi_in v := fun v hv => hst v (List.mem_cons_of_mem _ (List.mem_cons_of_mem _ hv))
        refine zi_iald C I.1 (x := x) (j := j) ?_ ij hc.2.1 hc.2.2 hd (fun hv => go _ (.inl _ :: r) h (cons hv ir))
        rcases hk1 with h1 | h1
        · exact Or.inl (hc.1.trans (Nat.eq_of_beq_eq_true h1))
        · exact Or.inr (hc.1.trans (Nat.eq_of_beq_eq_true h1))
      · cases h
    · cases h
  · -- iastore
    split at h
    · rename_i v j x r
      split at h
      · rename_i hc
        have iv : zi_ir v := hst _ List.mem_cons_self
        have ij : zi_ir j := hst _ (List.mem_cons_of_mem _ List.mem_cons_self)
        have ir : ∀ v ∈ r, zi_in v := fun v hv => hst v (List.mem_cons_of_mem _ (List.mem_cons_of_mem _ (List.mem_cons_of_mem _ hv)))
        exact zi_iast C I.1 I.2.1 (x := x) (j := j) (v := v) hc.1 ij hc.2.1 hc.2.2 iv hd (fun H1 locs1 g1 g2 => mem (zi_wr σ x j v) H1 locs1 _ r g1 g2 ir rfl h)
      · cases h
    · cases h
  · -- baload
    split at h
    · rename_i j x r
      split at h
      · rename_i hc
        have ij : zi_ir j := hst _ List.mem_cons_self
        have ir : ∀ v ∈ r, zi_in v := fun v hv => hst v (List.mem_cons_of_mem _ (List.mem_cons_of_mem _ hv))
        exact zi_zald C I.1 (x := x) (j := j) hc.1 ij hc.2.1 hc.2.2 hd (fun hv => go _ (.inl _ :: r) h (cons hv ir))
      · cases h
    · cases h
  · -- bastore
    split at h
    · rename_i v j x r
      split at h
      · rename_i hc
        have ij : zi_ir j := hst _ (List.mem_cons_of_mem _ List.mem_cons_self)
        have ir : ∀ v ∈ r, zi_in v := fun v hv => hst v (List.mem_cons_of_mem _ (List.mem_cons_of_mem _ (List.mem_cons_of_mem _ hv)))
        exact zi_zast C I.1 I.2.1 (x := x) (j := j) (v := v) hc.1.1 ij hc.1.2.1 hc.1.2.2 hc.2 hd (fun H1 locs1 g1 g2 => mem (zi_wr σ x j v) H1 locs1 _ r g1 g2 ir rfl h)
      · cases h
    · cases h
  · -- laload
    split at h
    · rename_i j x r
      split at h
      · rename_i hc
        have ij : zi_ir j := hst _ List.mem_cons_self
        have ir : ∀ v ∈ r, zi_in v := fun v hv => hst v (List.mem_cons_of_mem _ (List.mem_cons_of_mem _ hv))
        exact zi_lald C I.1 (x := x) (j := j) hc.1 ij hc.2.1 hc.2.2 hd (fun hv => go _ (.inr (.inl _) :: r) h (cons hv ir))
      · cases h
    · cases h
  · -- lastore
    split at h
    · rename_i v j x r
      split at h
      · rename_i hc
        have iv : zi_in (.inr (.inl v)) := hst _ List.mem_cons_self
        have ij : zi_ir j := hst _ (List.mem_cons_of_mem _ List.mem_cons_self)
        have ir : ∀ v ∈ r, zi_in v := fun v hv => hst v (List.mem_cons_of_mem _ (List.mem_cons_of_mem _ (List.mem_cons_of_mem _ hv)))
        exact zi_last C I.1 I.2.1 (x := x) (j := j) (v := v) hc.1 ij hc.2.1 hc.2.2 iv hd (fun H1 locs1 g1 g2 => mem (zi_wr σ x j v) H1 locs1 _ r g1 g2 ir rfl h)
      · cases h
    · cases h
  · -- aaload
    have hk1 : (Nat.ble 14 a && Nat.ble a 17) = true := hk
    rw [Bool.and_eq_true] at hk1
    split at h
    · rename_i j x r
      split at h
      · rename_i hc
        have ij : zi_ir j := hst _ List.mem_cons_self
        have ir : ∀ v ∈ r, zi_in v := fun v hv => hst v (List.mem_cons_of_mem _ (List.mem_cons_of_mem _ hv))
        exact zi_aald C I.1 (x := x) (j := j) hc.1 ⟨Nat.le_of_ble_eq_true hk1.1, Nat.le_of_ble_eq_true hk1.2⟩ ij hc.2.1 hc.2.2 hd (fun hv => go _ (.inr (.inr _) :: r) h (cons hv ir))
      · cases h
    · cases h
  · -- aastore
    have hk1 : (Nat.ble 14 a && Nat.ble a 17 && decide (0 ≤ b) && (match vwCl[b.toNat]? with
      | some q => decide (zi_ak a = some (.object q.1))
      | none => false)) = true := hk
    rw [Bool.and_eq_true, Bool.and_eq_true, Bool.and_eq_true] at hk1
    obtain ⟨⟨⟨k1, k2⟩, k3⟩, k4⟩ := hk1
    have k3 := of_decide_eq_true k3
    split at h
    · rename_i v j x r
      split at h
      · rename_i hc
        have ij : zi_ir j := hst _ (List.mem_cons_of_mem _ List.mem_cons_self)
        have ir : ∀ v ∈ r, zi_in v := fun v hv => hst v (List.mem_cons_of_mem _ (List.mem_cons_of_mem _ (List.mem_cons_of_mem _ hv)))
        cases hq : vwCl[b.toNat]? with
        | none => rw [hq] at k4; cases k4
        | some q =>
          rw [hq] at k4
          have hvb : (σ.1 v).1 = b.toNat := by have := hc.2; omega
          exact zi_aast C I.1 I.2.1 (x := x) (j := j) (v := v) hc.1.1 (of_decide_eq_true k4) (Nat.le_of_ble_eq_true k1) hq rfl hvb ij hc.1.2.1 hc.1.2.2 hd (fun H1 locs1 g1 g2 => mem (zi_wq σ x j v) H1 locs1 _ r g1 g2 ir rfl h)
      · cases h
    · cases h
  · -- arraylength
    have hk1 : (Nat.ble 12 a && Nat.ble a 18) = true := hk
    rw [Bool.and_eq_true] at hk1
    split at h
    · rename_i x r
      split at h
      · rename_i hc
        have ir : ∀ v ∈ r, zi_in v := fun v hv => hst v (List.mem_cons_of_mem _ hv)
        exact zi_alen C I.1 (x := x) hc ⟨Nat.le_of_ble_eq_true hk1.1, Nat.le_of_ble_eq_true hk1.2⟩ hd (fun hv => go _ (.inl _ :: r) h (cons hv ir))
      · cases h
    · cases h
  · -- newarray
    have hk := of_decide_eq_true hk
    split at h
    · rename_i n r
      split at h
      · rename_i hc
        have ir : ∀ v ∈ r, zi_in v := fun v hv => hst v (List.mem_cons_of_mem _ hv)
        obtain ⟨g1, g2, g3⟩ := made _ _ _ _ (.inr (.inr σ.2.2.2.1) :: r) h (cons topin ir)
        exact zi_newI C I.1 hk hwd hc.1 hc.2 g1 g2 hd g3
      · cases h
    · cases h
  · -- anewarray
    have hk := of_decide_eq_true hk
    split at h
    · rename_i n r
      split at h
      · rename_i hc
        have ir : ∀ v ∈ r, zi_in v := fun v hv => hst v (List.mem_cons_of_mem _ hv)
        obtain ⟨g1, g2, g3⟩ := made _ _ _ _ (.inr (.inr σ.2.2.2.1) :: r) h (cons topin ir)
        exact zi_newQ C I.1 (hpl _ hk) hc.1 hc.2 g1 g2 hd g3
      · cases h
    · cases h
  · -- new
    have hk := of_decide_eq_true hk
    obtain ⟨g1, g2, g3⟩ := made _ _ _ _ (.inr (.inr σ.2.2.2.1) :: st) h (cons topin hst)
    exact zi_newO C I.1 (hpl _ hk) g1 g2 hd g3
  · -- invokestatic
    rename_i idx
    have hk1 : ((decide ((idx, 2, a, b) ∈ pl ∨ (idx, 3, a, b) ∈ pl) && Nat.blt a 1000 && (match nps[a]? with
      | some q => decide (sw = [((q.1 : Int), q.2)])
      | none => false)) || (decide ((idx, 13, a, b) ∈ pl) && decide (sw = (if a = 1001 ∨ a = 1002 then [(2, 1)] else if a = 1003 ∨ a = 1004 then [(2, 4)] else [(5, 0)])))) = true := hk
    rw [Bool.or_eq_true] at hk1
    split at h
    · rename_i n rk sw'
      split at h
      · rename_i vs rest htk
        rw [cond_eq_ite] at h
        split at h
        · rename_i hcat
          rcases hk1 with hk1 | hk1
          · rw [Bool.and_eq_true, Bool.and_eq_true] at hk1
            obtain ⟨⟨k1, k2⟩, k3⟩ := hk1
            have k1 := of_decide_eq_true k1
            have k2 : a < 1000 := Nat.le_of_ble_eq_true k2
            cases hq : nps[a]? with
            | none => rw [hq] at k3; cases k3
            | some q =>
              rw [hq] at k3
              have k3 := of_decide_eq_true k3
              injection k3 with k4 k5
              injection k4 with k6 k7
              exact zi_inv C hnp HG1 HG3 hroom Hm Hnx I hl hst k2 hq k7 (Or.inl ⟨rfl, by omega, k1.imp (hpl _) (hpl _)⟩) htk hcat hd h
          · rw [Bool.and_eq_true] at hk1
            have k1 := hpl _ (of_decide_eq_true hk1.1)
            have k2 := of_decide_eq_true hk1.2
            obtain ⟨x, σ', h1, h2⟩ := zi_bind_cases h
            obtain ⟨av, e1, e2, e3⟩ := zi_take_spec htk
            rw [List.append_nil] at e1
            subst e1
            have hvs : ∀ v ∈ vs, zi_in v := fun v hv => hst v (by rw [e2]; exact List.mem_append_left _ (List.mem_reverse.mpr hv))
            have hrs : ∀ v ∈ rest, zi_in v := fun v hv => hst v (by rw [e2]; exact List.mem_append_right _ hv)
            have hcat' : ((rest.map zi_v).map fun v => v.category).sum ≤ 8 := by rw [zi_cats_eq]; exact Nat.le_of_ble_eq_true hcat
            have hlen : c.maxLocals = L.size := C.2.2.1.trans hl.2.1.symm
            have hcR : cells ≤ R.cells ∧ slots ≤ R.slots := by
              have g1 := HG3 _ _ _ _ _ h1
              have g2 := Hm _ _ _ _ h2
              obtain ⟨-, -, i3, i4, i5, i6⟩ := id I
              have g11 : σ.2.2.2.1 ≤ σ'.2.2.2.1 := g1.1
              have g12 : σ.2.2.2.2 ≤ σ'.2.2.2.2 := g1.2
              have g21 : σ'.2.2.2.1 ≤ res.2.2.2.2.1 := g2.1
              have g22 : σ'.2.2.2.2 ≤ res.2.2.2.2.2 := g2.2
              exact ⟨by omega, by omega⟩
            rcases k1 with ⟨ha, w1, w2, w3, w4⟩ | ⟨ha, w1, w2, w3, w4⟩ | ⟨ha, w1, w2, w3, w4⟩ | ⟨ha, w1, w2, w3, w4⟩ | ⟨ha, w1, w2, w3, w4⟩
            · change a = 1001 at ha
              subst ha
              obtain ⟨q1, q2, q3⟩ := HG2 _ _ _ _ _ (by decide) h1
              obtain ⟨u, v, rfl, rfl, rfl⟩ := zi_nat1 q1
              rw [if_pos (Or.inl rfl)] at k2
              cases k2
              have iu : zi_ir u := hvs _ List.mem_cons_self
              have iv : zi_ir v := hvs _ (List.mem_cons_of_mem _ List.mem_cons_self)
              have hres : zi_ir (if u < v then v else u) := by split <;> assumption
              rw [e2]
              refine va_mmax (rest := rest.map zi_v) (x := Int32.ofInt u) (y := Int32.ofInt v) hx hb hlen hown (hts _ w1) (hts _ w2) (hts _ w3) (hts _ w4) q2 (by omega) hcR.1 hcR.2 hd ?_
              rw [zi_max iu iv]
              exact go _ (.inl _ :: rest) h2 (cons hres hrs)
            · change a = 1002 at ha
              subst ha
              obtain ⟨q1, q2, q3⟩ := HG2 _ _ _ _ _ (by decide) h1
              obtain ⟨u, v, rfl, rfl, rfl⟩ := zi_nat2 q1
              rw [if_pos (Or.inr rfl)] at k2
              cases k2
              have iu : zi_ir u := hvs _ List.mem_cons_self
              have iv : zi_ir v := hvs _ (List.mem_cons_of_mem _ List.mem_cons_self)
              have hres : zi_ir (if v < u then v else u) := by split <;> assumption
              rw [e2]
              refine va_mmin (rest := rest.map zi_v) (x := Int32.ofInt u) (y := Int32.ofInt v) hx hb hlen hown (hts _ w1) (hts _ w2) (hts _ w3) (hts _ w4) q2 (by omega) hcR.1 hcR.2 hd ?_
              rw [zi_min iu iv]
              exact go _ (.inl _ :: rest) h2 (cons hres hrs)
            · change a = 1003 at ha
              subst ha
              obtain ⟨q1, q2, q3⟩ := HG2 _ _ _ _ _ (by decide) h1
              obtain ⟨u, v, rfl, rfl, rfl⟩ := zi_nat3 q1
              rw [if_neg (by omega), if_pos (Or.inl rfl)] at k2
              cases k2
              have iu : zi_in (.inr (.inl u)) := hvs _ List.mem_cons_self
              have iv : zi_in (.inr (.inl v)) := hvs _ (List.mem_cons_of_mem _ List.mem_cons_self)
              have hres : zi_in (.inr (.inl (if v < u then u else v))) := by split <;> assumption
              rw [e2]
              refine va_mmax_long (rest := rest.map zi_v) (x := Int64.ofInt u) (y := Int64.ofInt v) hx hb hlen hown (hts _ w1) (hts _ w2) (hts _ w3) (hts _ w4) q2 (by omega) hcR.1 hcR.2 hd ?_
              rw [zi_lmax iu iv]
              exact go _ (.inr (.inl _) :: rest) h2 (cons hres hrs)
            · change a = 1004 at ha
              subst ha
              obtain ⟨q1, q2, q3⟩ := HG2 _ _ _ _ _ (by decide) h1
              obtain ⟨u, v, rfl, rfl, rfl⟩ := zi_nat4 q1
              rw [if_neg (by omega), if_pos (Or.inr rfl)] at k2
              cases k2
              have iu : zi_in (.inr (.inl u)) := hvs _ List.mem_cons_self
              have iv : zi_in (.inr (.inl v)) := hvs _ (List.mem_cons_of_mem _ List.mem_cons_self)
              have hres : zi_in (.inr (.inl (if v < u then v else u))) := by split <;> assumption
              rw [e2]
              refine va_mmin_long (rest := rest.map zi_v) (x := Int64.ofInt u) (y := Int64.ofInt v) hx hb hlen hown (hts _ w1) (hts _ w2) (hts _ w3) (hts _ w4) q2 (by omega) hcR.1 hcR.2 hd ?_
              rw [zi_lmin iu iv]
              exact go _ (.inr (.inl _) :: rest) h2 (cons hres hrs)
            · change a = 1005 at ha
              subst ha
              obtain ⟨q1, q2, q3⟩ := HG2 _ _ _ _ _ (by decide) h1
              obtain ⟨x1, s1, y1, d1, n1, rfl, ⟨⟨c1, c2⟩, c3, c4, c5, c6, c7⟩, rfl, rfl⟩ := zi_nat5 q1
              rw [if_neg (by omega), if_neg (by omega)] at k2
              cases k2
              have j1 : zi_ir s1 := hvs (.inl s1) (by simp)
              have j2 : zi_ir d1 := hvs (.inl d1) (by simp)
              have j3 : zi_ir n1 := hvs (.inl n1) (by simp)
              rw [e2, List.map_append]
              exact zi_copy C I.1 I.2.1 hl.2.1 (recs := recs) (b := b) (hpl _ (of_decide_eq_true hk1.1)) (Nat.le_of_ble_eq_true hcat) q2 q3 c1 c2 c3 c4 c5 c6 c7 j1 j2 j3 hd (fun H1 locs1 g1 g2 => mem (σ.1, zi_cpy σ.2.1 x1 y1 s1 d1 n1, σ.2.2) H1 locs1 _ rest g1 g2 hrs rfl h2)
        · cases h
      · cases h
    · cases h
  · -- invokevirtual
    rename_i idx
    have hk1 : (decide ((idx, 4, a, b) ∈ pl ∨ (idx, 5, a, b) ∈ pl) && Nat.blt a 1000 && (match nps[a]? with
      | some q => decide (sw = [((q.1 : Int) + 1, q.2)])
      | none => false)) = true := hk
    rw [Bool.and_eq_true, Bool.and_eq_true] at hk1
    obtain ⟨⟨k1, k2⟩, k3⟩ := hk1
    have k1 := of_decide_eq_true k1
    have k2 : a < 1000 := Nat.le_of_ble_eq_true k2
    split at h
    · rename_i n rk sw'
      split at h
      · rename_i y vs rest htk
        rw [cond_eq_ite] at h
        split at h
        · rename_i hcat
          split at h
          · rename_i hyb
            cases hq : nps[a]? with
            | none => rw [hq] at k3; cases k3
            | some q =>
              rw [hq] at k3
              have k3 := of_decide_eq_true k3
              injection k3 with k4 k5
              injection k4 with k6 k7
              exact zi_inv C hnp HG1 HG3 hroom Hm Hnx I hl hst k2 hq k7 (Or.inr ⟨by omega, ⟨y, vs, rfl, hyb⟩, Or.inl ⟨rfl, k1.imp (hpl _) (hpl _)⟩⟩) htk hcat hd h
          · cases h
        · cases h
      · cases h
    · cases h
  · -- invokespecial
    rename_i idx
    have hk1 : ((decide ((idx, 6, a, b) ∈ pl ∨ (idx, 7, a, b) ∈ pl) && Nat.blt a 1000 && (match nps[a]? with
      | some q => decide (sw = [((q.1 : Int) + 1, q.2)])
      | none => false)) || (decide ((idx, 12, a, b) ∈ pl) && decide (a = 1000 ∧ sw = [(1, 0)]))) = true := hk
    rw [Bool.or_eq_true] at hk1
    split at h
    · rename_i n rk sw'
      split at h
      · rename_i y vs rest htk
        rw [cond_eq_ite] at h
        split at h
        · rename_i hcat
          split at h
          · rename_i hyb
            rcases hk1 with hk1 | hk1
            · rw [Bool.and_eq_true, Bool.and_eq_true] at hk1
              obtain ⟨⟨k1, k2⟩, k3⟩ := hk1
              have k1 := of_decide_eq_true k1
              have k2 : a < 1000 := Nat.le_of_ble_eq_true k2
              cases hq : nps[a]? with
              | none => rw [hq] at k3; cases k3
              | some q =>
                rw [hq] at k3
                have k3 := of_decide_eq_true k3
                injection k3 with k4 k5
                injection k4 with k6 k7
                exact zi_inv C hnp HG1 HG3 hroom Hm Hnx I hl hst k2 hq k7 (Or.inr ⟨by omega, ⟨y, vs, rfl, hyb⟩, Or.inr ⟨rfl, k1.imp (hpl _) (hpl _)⟩⟩) htk hcat hd h
            · rw [Bool.and_eq_true] at hk1
              obtain ⟨b1, b2, w1, w2, w3⟩ := hpl _ (of_decide_eq_true hk1.1)
              obtain ⟨k2, k3⟩ := of_decide_eq_true hk1.2
              subst k2
              cases k3
              obtain ⟨x, σ', h1, h2⟩ := zi_bind_cases h
              obtain ⟨q1, q2, q3⟩ := HG2 _ _ _ _ _ (by decide) h1
              obtain ⟨⟨z, hz⟩, rfl, rfl⟩ := zi_nat0 q1
              cases hz
              obtain ⟨av, e1, e2, e3⟩ := zi_take_spec htk
              rw [List.append_nil] at e1
              subst e1
              have hrs : ∀ v ∈ rest, zi_in v := fun v hv => hst v (by rw [e2]; exact List.mem_append_right _ hv)
              have hcat' : ((rest.map zi_v).map fun v => v.category).sum ≤ 8 := by rw [zi_cats_eq]; exact Nat.le_of_ble_eq_true hcat
              change 0 ≤ b at b1
              change b < 11 at b2
              have hky : (σ'.1 y).1 ≠ 99 := by omega
              obtain ⟨ad, ex, er⟩ := zi_kind_pos I.1 rfl hky
              have hst2 : st.map zi_v = .ref ad :: rest.map zi_v := by
                rw [e2]
                show zi_v (.inr (.inr y)) :: rest.map zi_v = _
                rw [zi_vr er]
              rw [hst2]
              exact W.objInit hx hb hown (hts _ w1) (hts _ w2) (hts _ w3) rfl (by show L.size = _; rw [hl.2.1]; exact C.2.2.1.symm) rfl hd q2 (by show 2 * 0 + _ + 12 ≤ _; omega) (go _ rest h2 hrs)
          · cases h
        · cases h
      · cases h
    · cases h
  · -- ireturn
    split at h
    · rename_i x
      split at h
      · rename_i hrk
        cases h
        exact Hend _ hd (Or.inl ⟨rfl, rfl, Or.inl hrk⟩) rfl
      · rename_i hrk
        split at h
        · rename_i hx01
          cases h
          exact Hend _ hd (Or.inl ⟨rfl, rfl, Or.inr ⟨hrk, hx01⟩⟩) rfl
        · cases h
      · cases h
    · cases h
  · -- areturn
    split at h
    · rename_i x
      split at h
      · rename_i hrk
        cases h
        exact Hend _ hd (Or.inr (Or.inl ⟨rfl, rfl, hrk⟩)) rfl
      · cases h
    · cases h
  · -- return
    split at h
    · split at h
      · rename_i hrk
        cases h
        exact Hend _ hd (Or.inr (Or.inr ⟨rfl, rfl, rfl, hrk⟩)) rfl
      · cases h
    · cases h
  · cases h
end ZX
end
section
/-! a method, and all methods that it calls -/
theorem zi_cut_mem : ∀ {cu : List (Nat × List Bool)} {pc : Nat} {x : List Bool}, zi_cut cu pc = some x → (pc, x) ∈ cu
  | [], _, _, h => by cases h
  | q :: r, pc, x, h => by
    unfold zi_cut at h
    cases hb : Nat.beq q.1 pc with
    | true =>
      rw [hb] at h
      have h1 := Nat.eq_of_beq_eq_true hb
      cases h
      subst h1
      exact List.mem_cons_self
    | false =>
      rw [hb] at h
      exact List.mem_cons_of_mem _ (zi_cut_mem h)
theorem zi_fr_succ {t : zT} {G : Nat → List zV → zM → zR} {K : Nat → zL → List zV → zM → zR} {n pc : Nat} {ls : zL} {st : List zV} {σ : zM} : zi_fr t G K (n + 1) pc ls st σ = zi_ex t G (fun pc' ls' st' σ' => match zi_cut t.2.1 pc' with
    | some live => K pc' (zi_mask live ls') st' σ'
    | none => zi_fr t G K n pc' ls' st' σ') pc ls st σ := rfl
theorem zi_run_succ {t : zT} {G : Nat → List zV → zM → zR} {n pc : Nat} {ls : zL} {st : List zV} {σ : zM} : zi_run t G (n + 1) pc ls st σ = zi_fr t G (zi_run t G n) 600 pc ls st σ := rfl
theorem zi_fr_le {t : zT} {G : Nat → List zV → zM → zR} {K : Nat → zL → List zV → zM → zR} {res : Int × zM} (HG : zi_G3 G) (HK : ∀ pc' ls' st' σ', K pc' ls' st' σ' = some res → zi_lq σ' res) : ∀ (n : Nat) {pc : Nat} {ls : zL} {st : List zV} {σ : zM}, zi_fr t G K n pc ls st σ = some res → zi_lq σ res
  | 0, _, _, _, _, h => by cases h
  | n + 1, pc, ls, st, σ, h => by
    rw [zi_fr_succ] at h
    refine zi_ex_le HG (fun pc' ls' st' σ' h' => ?_) h
    split at h'
    · exact HK _ _ _ _ h'
    · exact zi_fr_le HG HK n h'
theorem zi_run_le {t : zT} {G : Nat → List zV → zM → zR} {res : Int × zM} (HG : zi_G3 G) : ∀ (n : Nat) {pc : Nat} {ls : zL} {st : List zV} {σ : zM}, zi_run t G n pc ls st σ = some res → zi_lq σ res
  | 0, _, _, _, _, h => by cases h
  | n + 1, pc, ls, st, σ, h => by
    rw [zi_run_succ] at h
    exact zi_fr_le HG (fun pc' ls' st' σ' h' => zi_run_le HG n h') 600 h
theorem zi_G_le (tab : Nat → zT) : ∀ d, zi_G3 (zi_G tab d)
  | 0 => fun a vs σ x σ' h => by cases h
  | d + 1 => fun a vs σ x σ' h => by
    unfold zi_G at h
    cases hb : Nat.ble 1000 a with
    | true =>
      rw [hb] at h
      change zi_nat a vs σ = some (x, σ') at h
      unfold zi_nat at h
      split at h
      all_goals try (cases h; done)
      all_goals try (cases h; exact zi_lq_refl _ _)
      split at h
      · cases h; exact ⟨Int.le_refl _, Nat.le_refl _⟩
      · cases h
    | false =>
      rw [hb] at h
      cases hc : Nat.ble (zi_args vs).length (tab a).2.2.1 with
      | true =>
        rw [hc] at h
        exact zi_run_le (zi_G_le tab d) 20000 h
      | false =>
        rw [hc] at h
        cases h
section ZR
variable {p : Program} {l : Launch} {e : Env} {R : Room} {s : State} {m : MethodId} {args : Array Value} {below : List Frame} {meth : Method} {c : Code} {Q : State → Prop} {D : va_G} {cc : ByteArray} {nL : Nat} {own : String} {ini : Bool} {base : Nat} {σ0 : zM} {recs : List zi_rec}
/-- the end of a method, for the one who calls it -/
def zi_end (p : Program) (l : Launch) (e : Env) (R : Room) (s : State) (m : MethodId) (args : Array Value) (below : List Frame) (meth : Method) (c : Code) (Q : State → Prop) (D : va_G) (base : Nat) (cc : ByteArray) (σ0 : zM) (rk : Nat) (res : Int × zM) : Prop :=
  ∀ pc L st H locs cells slots ins, decode cc pc = .ok (ins, 1) → zi_endok rk ins st res.1 → (∀ v ∈ st, zi_in v) → zi_I s D base σ0 res.2 H locs cells slots → W p l e R s m args below meth c H locs cells slots Q (F0 m pc L (st.map zi_v))
theorem zi_fr_ok {t : zT} {G : Nat → List zV → zM → zR} {K : Nat → zL → List zV → zM → zR} {res : Int × zM} {nps : List (Nat × Nat)} {pl : List (Nat × Nat × Nat × Int)}
    (C : zi_cx p s m args meth c D cc nL own ini) (hpl : ∀ e ∈ pl, zi_pm recs own e) (hnp : ∀ (a : Nat) (r : zi_rec) (q : Nat × Nat), recs[a]? = some r → nps[a]? = some q → q = (r.2.2.2.1, r.2.2.2.2.2.2.2)) (hwd : Jvm.Cond.arrayClass .int ∈ zi_tb ∧ Jvm.Cond.arrayClass .long ∈ zi_tb)
    (hck : ∀ cl ∈ t.1, decode cc cl.1 = .ok (cl.2.1, zi_len cl.2.1 cl.2.2.2.1) ∧ zi_ck nps own pl ini cl = true) (hcut : ∀ q ∈ t.2.1, q.2.length = nL)
    (HG1 : zi_G1 l R recs G) (HG2 : zi_G2 R G) (HG3 : zi_G3 G) (hroom : (res.2.2.2.2.1 - σ0.2.2.2.1).toNat ≤ R.cells ∧ res.2.2.2.2.2 - σ0.2.2.2.2 ≤ R.slots)
    (HKm : ∀ pc' ls' st' σ', K pc' ls' st' σ' = some res → zi_lq σ' res)
    (HK : ∀ pc' ls' st' σ' L' H' locs' cells' slots', zi_lr ls' nL L' → (∀ v ∈ st', zi_in v) → zi_I s D base σ0 σ' H' locs' cells' slots' → K pc' ls' st' σ' = some res → W p l e R s m args below meth c H' locs' cells' slots' Q (F0 m pc' L' (st'.map zi_v)))
    (Hend : zi_end p l e R s m args below meth c Q D base cc σ0 t.2.2.2 res) :
    ∀ (n : Nat) pc ls st σ L H locs cells slots, zi_lr ls nL L → (∀ v ∈ st, zi_in v) → zi_I s D base σ0 σ H locs cells slots → zi_fr t G K n pc ls st σ = some res → W p l e R s m args below meth c H locs cells slots Q (F0 m pc L (st.map zi_v))
  | 0, _, _, _, _, _, _, _, _, _, _, _, _, h => by cases h
  | n + 1, pc, ls, st, σ, L, H, locs, cells, slots, hl, hst, I, h => by
    rw [zi_fr_succ] at h
    refine zi_ex_ok C hpl hnp hwd hck HG1 HG2 HG3 hroom (fun pc' ls' st' σ' h' => ?_) (fun pc' ls' st' σ' L' H' locs' cells' slots' g1 g2 g3 h' => ?_) (fun ins g1 g2 g3 => Hend _ _ _ _ _ _ _ ins g1 g2 hst (by rw [← g3]; exact I)) I hl hst h
    · split at h'
      · exact HKm _ _ _ _ h'
      · exact zi_fr_le HG3 HKm n h'
    · split at h'
      · rename_i live hlive
        exact HK _ _ _ _ _ _ _ _ _ (zi_lr_mask g1 (by rw [hcut _ (zi_cut_mem hlive)]; exact g1.1.symm)) g2 g3 h'
      · exact zi_fr_ok C hpl hnp hwd hck hcut HG1 HG2 HG3 hroom HKm HK Hend n _ _ _ _ _ _ _ _ _ g1 g2 g3 h'
theorem zi_run_ok {t : zT} {G : Nat → List zV → zM → zR} {res : Int × zM} {nps : List (Nat × Nat)} {pl : List (Nat × Nat × Nat × Int)}
    (C : zi_cx p s m args meth c D cc nL own ini) (hpl : ∀ e ∈ pl, zi_pm recs own e) (hnp : ∀ (a : Nat) (r : zi_rec) (q : Nat × Nat), recs[a]? = some r → nps[a]? = some q → q = (r.2.2.2.1, r.2.2.2.2.2.2.2)) (hwd : Jvm.Cond.arrayClass .int ∈ zi_tb ∧ Jvm.Cond.arrayClass .long ∈ zi_tb)
    (hck : ∀ cl ∈ t.1, decode cc cl.1 = .ok (cl.2.1, zi_len cl.2.1 cl.2.2.2.1) ∧ zi_ck nps own pl ini cl = true) (hcut : ∀ q ∈ t.2.1, q.2.length = nL)
    (HG1 : zi_G1 l R recs G) (HG2 : zi_G2 R G) (HG3 : zi_G3 G) (hroom : (res.2.2.2.2.1 - σ0.2.2.2.1).toNat ≤ R.cells ∧ res.2.2.2.2.2 - σ0.2.2.2.2 ≤ R.slots)
    (Hend : zi_end p l e R s m args below meth c Q D base cc σ0 t.2.2.2 res) :
    ∀ (n : Nat) pc ls st σ L H locs cells slots, zi_lr ls nL L → (∀ v ∈ st, zi_in v) → zi_I s D base σ0 σ H locs cells slots → zi_run t G n pc ls st σ = some res → W p l e R s m args below meth c H locs cells slots Q (F0 m pc L (st.map zi_v))
  | 0, _, _, _, _, _, _, _, _, _, _, _, _, h => by cases h
  | n + 1, pc, ls, st, σ, L, H, locs, cells, slots, hl, hst, I, h =>
    zi_fr_ok C hpl hnp hwd hck hcut HG1 HG2 HG3 hroom (fun pc' ls' st' σ' h' => zi_run_le HG3 n h')
      (fun pc' ls' st' σ' L' H' locs' cells' slots' g1 g2 g3 h' => zi_run_ok C hpl hnp hwd hck hcut HG1 HG2 HG3 hroom Hend n _ _ _ _ _ _ _ _ _ g1 g2 g3 h') Hend 600 pc ls st σ L H locs cells slots hl hst I h
end ZR
/-! the entry -/
theorem zi_sl_len : ∀ vs : List zV, (lg_sl (vs.map zi_v)).length = (zi_args vs).length
  | [] => rfl
  | .inl x :: r => by
    have := zi_sl_len r
    simp only [List.map_cons, zi_args, List.length_cons, ← this]
    rfl
  | .inr (.inl x) :: r => by
    have := zi_sl_len r
    simp only [List.map_cons, zi_args, List.length_cons, ← this]
    rfl
  | .inr (.inr x) :: r => by
    have := zi_sl_len r
    have h : (zi_v (.inr (.inr x))).category = 1 := zi_v_cat1 rfl
    simp only [List.map_cons, zi_args, List.length_cons, ← this]
    unfold lg_sl
    rw [List.flatMap_cons, h]
    simp
theorem zi_args_get : ∀ {vs : List zV} {k i : Nat} {v : zV}, zi_get (zi_args vs) i = some v → (k + i, zi_v v) ∈ lv_args k (vs.map zi_v) ∧ v ∈ vs
  | [], _, _, _, h => by cases h
  | .inl x :: r, k, 0, v, h => by cases h; exact ⟨List.mem_cons_self, List.mem_cons_self⟩
  | .inl x :: r, k, i + 1, v, h => by
    obtain ⟨h1, h2⟩ := zi_args_get (vs := r) (k := k + 1) (i := i) h
    refine ⟨List.mem_cons_of_mem _ ?_, List.mem_cons_of_mem _ h2⟩
    rw [show k + (i + 1) = k + 1 + i by omega]
    exact h1
  | .inr (.inl x) :: r, k, 0, v, h => by cases h; exact ⟨List.mem_cons_self, List.mem_cons_self⟩
  | .inr (.inl x) :: r, k, 1, v, h => by cases h
  | .inr (.inl x) :: r, k, i + 2, v, h => by
    obtain ⟨h1, h2⟩ := zi_args_get (vs := r) (k := k + 2) (i := i) h
    refine ⟨List.mem_cons_of_mem _ ?_, List.mem_cons_of_mem _ h2⟩
    rw [show k + (i + 2) = k + 2 + i by omega]
    exact h1
  | .inr (.inr x) :: r, k, 0, v, h => by cases h; exact ⟨List.mem_cons_self, List.mem_cons_self⟩
  | .inr (.inr x) :: r, k, i + 1, v, h => by
    obtain ⟨h1, h2⟩ := zi_args_get (vs := r) (k := k + 1) (i := i) h
    have hc : (zi_v (.inr (.inr x))).category = 1 := zi_v_cat1 rfl
    refine ⟨?_, List.mem_cons_of_mem _ h2⟩
    rw [List.map_cons, lv_args, hc]
    refine List.mem_cons_of_mem _ ?_
    rw [show k + (i + 1) = k + 1 + i by omega]
    exact h1
theorem zi_get_app : ∀ {a : zL} {n i : Nat} {v : zV}, zi_get (a ++ List.replicate n none) i = some v → zi_get a i = some v
  | [], 0, i, v, h => by cases h
  | [], n + 1, 0, v, h => by cases h
  | [], n + 1, i + 1, v, h => zi_get_app (a := []) (n := n) (i := i) h
  | w :: a, n, 0, v, h => h
  | w :: a, n, i + 1, v, h => zi_get_app (a := a) (n := n) (i := i) h
theorem zi_lr_entry {vs : List zV} {n : Nat} (h : (zi_args vs).length ≤ n) (hin : ∀ v ∈ vs, zi_in v) : zi_lr (zi_loc vs n) n ((lg_sl (vs.map zi_v) ++ List.replicate (n - (lg_sl (vs.map zi_v)).length) Slot.unset).toArray) := by
  have hE := lv_entry (vs.map zi_v) (n := n) (by rw [zi_sl_len]; exact h)
  refine ⟨?_, hE.1, hE.2.1, fun i v hv => ?_⟩
  · unfold zi_loc
    rw [List.length_append, List.length_replicate]
    omega
  · obtain ⟨h1, h2⟩ := zi_args_get (k := 0) (zi_get_app hv)
    rw [Nat.zero_add] at h1
    exact ⟨hE.2.2 _ h1, hin v h2⟩
def zi_rtk (rk : Nat) (rt : Option FieldType) : Prop := (rk = 0 ∧ rt = none) ∨ (rk = 1 ∧ rt = some .int) ∨ (rk = 2 ∧ rt = some .boolean) ∨ (rk = 3 ∧ ∃ n, rt = some (.object n))
def zi_rg (recs : List zi_rec) (nps : List (Nat × Nat)) (r : zi_rec) : Prop := zi_rok r ∧ plainName r.1.cls = true ∧ (∀ q ∈ r.2.2.2.2.2.1, q.2.length = r.2.2.2.2.2.2.1) ∧ zi_rtk r.2.2.2.2.2.2.2 r.2.2.1 ∧ ∃ pl, (∀ e ∈ pl, zi_pm recs r.1.cls e) ∧ ∀ cl ∈ r.2.2.2.2.1, decode r.2.1 cl.1 = .ok (cl.2.1, zi_len cl.2.1 cl.2.2.2.1) ∧ zi_ck nps r.1.cls pl (decide (r.1.name = "<init>")) cl = true
def zi_tab (recs : List zi_rec) (j : Nat) : zT := match recs[j]? with
  | some r => r.2.2.2.2
  | none => ([], [], 0, 0)
theorem zi_run_nil {cu : List (Nat × List Bool)} {a b : Nat} {G : Nat → List zV → zM → zR} {n pc : Nat} {ls : zL} {st : List zV} {σ : zM} : zi_run ([], cu, a, b) G n pc ls st σ = none := by
  cases n with
  | zero => rfl
  | succ n => rfl
set_option maxHeartbeats 4000000 in
theorem zi_G_ok {recs : List zi_rec} {nps : List (Nat × Nat)} (hrecs : ∀ r ∈ recs, zi_rg recs nps r) (hnp : ∀ (a : Nat) (r : zi_rec) (q : Nat × Nat), recs[a]? = some r → nps[a]? = some q → q = (r.2.2.2.1, r.2.2.2.2.2.2.2)) (hwd : Jvm.Cond.arrayClass .int ∈ zi_tb ∧ Jvm.Cond.arrayClass .long ∈ zi_tb) (l : Launch) :
    ∀ (d : Nat) (R : Room), d ≤ R.frames → 38 * d ≤ R.locals → zi_G1 l R recs (zi_G (zi_tab recs) d) ∧ zi_G2 R (zi_G (zi_tab recs) d)
  | 0, R, _, _ => ⟨fun a vs σ x σ' _ h => (by cases h), fun a vs σ x σ' _ h => (by cases h)⟩
  | d + 1, R, hf, hlc => by
    refine ⟨fun a vs σ x σ' ha h hin => ?_, fun a vs σ x σ' ha h => ?_⟩
    · unfold zi_G at h
      have hb : Nat.ble 1000 a = false := by
        cases hb : Nat.ble 1000 a with
        | true => exact absurd (Nat.le_of_ble_eq_true hb) (by omega)
        | false => rfl
      rw [hb] at h
      change (bif Nat.ble (zi_args vs).length (zi_tab recs a).2.2.1 then zi_run (zi_tab recs a) (zi_G (zi_tab recs) d) 20000 0 (zi_loc vs (zi_tab recs a).2.2.1) [] σ else none) = some (x, σ') at h
      cases hr : recs[a]? with
      | none =>
        exfalso
        have ht : zi_tab recs a = ([], [], 0, 0) := by unfold zi_tab; rw [hr]
        rw [ht] at h
        cases hc : Nat.ble (zi_args vs).length 0 with
        | true => rw [hc, zi_run_nil] at h; cases h
        | false => rw [hc] at h; cases h
      | some r =>
        have ht : zi_tab recs a = r.2.2.2.2 := by unfold zi_tab; rw [hr]
        rw [ht] at h
        obtain ⟨hok, hpn, hcut, hrtk, pl, hpl, hck⟩ := hrecs r (List.mem_of_getElem? hr)
        cases hc : Nat.ble (zi_args vs).length r.2.2.2.2.2.2.1 with
        | false => rw [hc] at h; cases h
        | true =>
          rw [hc] at h
          change zi_run r.2.2.2.2 (zi_G (zi_tab recs) d) 20000 0 (zi_loc vs r.2.2.2.2.2.2.1) [] σ = some (x, σ') at h
          refine ⟨r, d, rfl, hok, hf, hlc, fun D base => ?_⟩
          refine Met.ofW (cc := r.2.1) (maxL := r.2.2.2.2.2.2.1) (ret := r.2.2.1) hpn rfl ?_
          intro p e s m args below meth c s₁ B hml hv
          obtain ⟨rfl, hK, hnw, hW⟩ := hv
          have hx := B.exec
          have hb := B.bytes
          have hrt := B.returns
          have hts := atoms_spec (ws := zi_ws r) B.pre
          have hown : s.vm.findClass r.1.cls = some m.cls := findClass_of_methodNamed B.named
          have hlocks := B.notSynchronized
          have hnm : meth.name = r.1.name := (name_of_methodNamed B.named B.method).1
          rw [lg_entry_eq]
          have hlr := zi_lr_entry (Nat.le_of_ble_eq_true hc) hin
          have hC : zi_cx p s m (vs.map zi_v).toArray meth c D r.2.1 r.2.2.2.2.2.2.1 r.1.cls (decide (r.1.name = "<init>")) := ⟨hx, hb, hml, hown, fun w hw => hts w (List.mem_cons_of_mem _ hw), hK, hnw, fun q => by rw [hnm]; exact of_decide_eq_true q⟩
          obtain ⟨G1, G2⟩ := zi_G_ok hrecs hnp hwd l d (zi_rm d (σ'.2.2.2.1 - σ.2.2.2.1).toNat (σ'.2.2.2.2 - σ.2.2.2.2)) (Nat.le_refl d) (Nat.le_refl _)
          refine zi_run_ok (recs := recs) (σ0 := σ) (res := (x, σ')) hC hpl hnp hwd hck hcut G1 G2 (zi_G_le _ d) ⟨Nat.le_refl _, Nat.le_refl _⟩ ?_ 20000 0 _ [] σ _ s.heap [] 0 0 hlr (fun v hv => absurd hv List.not_mem_nil) ⟨hW, fun q hq => absurd hq List.not_mem_nil, by omega, by omega, Int.le_refl _, Nat.le_refl _⟩ h
          intro pc L st H locs cells slots ins hd hend hst I
          obtain ⟨hW', hlo, rfl, rfl, -, -⟩ := I
          rcases hend with ⟨rfl, rfl, hrk⟩ | ⟨rfl, rfl, hrk⟩ | ⟨rfl, rfl, hx0, hrk⟩
          · have iv : zi_ir x := hst _ List.mem_cons_self
            have hrk' : (r.2.2.2.2.2.2.2 = 1 ∨ (r.2.2.2.2.2.2.2 = 2 ∧ (x = 0 ∨ x = 1))) := hrk
            have hmk : zi_mkv r.2.2.2.2.2.2.2 x = .inl x ∧ zi_rv r.2.2.2.2.2.2.2 x = some (.int (Int32.ofInt x)) := by
              rcases hrk' with q | ⟨q, -⟩ <;> rw [q] <;> exact ⟨rfl, rfl⟩
            have hq : ∀ t : State, t.heap = H → s.WarmedH t.vm → zi_Qc D base r.2.2.2.2.2.2.2 x σ' (vs.map zi_v).toArray s (.returned (some (.int (Int32.ofInt x)))) t := fun t ht hWm => ⟨by rw [hmk.2], by rw [hmk.1]; exact iv, va_K.moved hWm.alike hK, by rw [ht]; exact zi_W.moved hWm.alike hW'⟩
            rcases hrtk with ⟨q, -⟩ | ⟨q, hty⟩ | ⟨q, hty⟩ | ⟨q, -⟩
            · rcases hrk' with z | ⟨z, -⟩ <;> rw [q] at z <;> cases z
            · exact W.zret (ty := .int) hx hb (by rw [hrt, hty]) rfl hq hlo hd hlocks
            · rcases hrk' with z | ⟨-, z⟩
              · rw [q] at z; cases z
              · exact W.zret (ty := .boolean) hx hb (by rw [hrt, hty]) (by rcases z with rfl | rfl <;> decide) hq hlo hd hlocks
            · rcases hrk' with z | ⟨z, -⟩ <;> rw [q] at z <;> cases z
          · have iv : 0 ≤ x := hst _ List.mem_cons_self
            change r.2.2.2.2.2.2.2 = 3 at hrk
            have hq : ∀ t : State, t.heap = H → s.WarmedH t.vm → zi_Qc D base r.2.2.2.2.2.2.2 x σ' (vs.map zi_v).toArray s (.returned (some (zi_v (.inr (.inr x))))) t := fun t ht hWm => ⟨by rw [hrk]; rfl, by rw [hrk]; exact iv, va_K.moved hWm.alike hK, by rw [ht]; exact zi_W.moved hWm.alike hW'⟩
            rcases hrtk with ⟨q, -⟩ | ⟨q, hty⟩ | ⟨q, hty⟩ | ⟨q, n, hty⟩
            · rw [q] at hrk; cases hrk
            · rw [q] at hrk; cases hrk
            · rw [q] at hrk; cases hrk
            · exact W.aret (rt := .object n) (v := zi_v (.inr (.inr x))) hx hb (by rw [hrt, hty]) (Or.inl ⟨n, rfl⟩) (by
                cases hr : zi_ro x with
                | none => exact Or.inl (zi_null hr)
                | some y => exact Or.inr ⟨y, zi_vr hr⟩) hq hlo hd hlocks
          · change x = 0 at hx0
            change r.2.2.2.2.2.2.2 = 0 at hrk
            subst hx0
            have hq : ∀ t : State, t.heap = H → s.WarmedH t.vm → zi_Qc D base r.2.2.2.2.2.2.2 0 σ' (vs.map zi_v).toArray s (.returned none) t := fun t ht hWm => ⟨by rw [hrk]; rfl, by rw [hrk]; exact zi_ir0, va_K.moved hWm.alike hK, by rw [ht]; exact zi_W.moved hWm.alike hW'⟩
            rcases hrtk with ⟨q, hty⟩ | ⟨q, hty⟩ | ⟨q, hty⟩ | ⟨q, n, hty⟩
            · exact W.vret hx hb (by rw [hrt, hty]) hq hlo hd hlocks
            · rw [q] at hrk; cases hrk
            · rw [q] at hrk; cases hrk
            · rw [q] at hrk; cases hrk
    · unfold zi_G at h
      have hb : Nat.ble 1000 a = true := Nat.ble_eq_true_of_le ha
      rw [hb] at h
      exact ⟨h, by omega, by omega⟩
end
section
/-! the code of each method, resolved -/
def zt_0 : zT := ([(0, .aload_n 0, 0, 0, []), (1, .invokespecial 3, 1000, 0, [(1, 0)]), (4, .aload_n 0, 0, 0, []), (5, .iconst 0, 0, 0, []), (6, .putfield 9, 0, 0, []), (9, .aload_n 0, 0, 0, []), (10, .bipush 8, 0, 8, []), (12, .newarray .int, 12, 0, []), (14, .putfield 15, 0, 1, []), (17, .aload_n 0, 0, 0, []), (18, .bipush 8, 0, 8, []), (20, .newarray .int, 12, 0, []), (22, .putfield 19, 0, 2, []), (25, .aload_n 0, 0, 0, []), (26, .bipush 8, 0, 8, []), (28, .newarray .int, 12, 0, []), (30, .putfield 22, 0, 3, []), (33, .return_, 0, 0, [])], [], 1, 0)
def zt_1 : zT := ([(0, .iload_n 1, 1, 0, []), (1, .ifCond .lt 15, 16, 0, []), (4, .iload_n 1, 1, 0, []), (5, .aload_n 0, 0, 0, []), (6, .getfield 9, 0, 0, []), (9, .if_icmp .ge 7, 16, 0, []), (12, .iconst 1, 0, 1, []), (13, .goto 4, 17, 0, []), (16, .iconst 0, 0, 0, []), (17, .ireturn, 0, 0, [])], [], 2, 2)
def zt_2 : zT := ([(0, .aload_n 0, 0, 0, []), (1, .getfield 15, 0, 1, []), (4, .iload_n 1, 1, 0, []), (5, .invokestatic 25, 72, 0, [(2, 1)]), (8, .ireturn, 0, 0, [])], [], 2, 1)
def zt_3 : zT := ([(0, .aload_n 0, 0, 0, []), (1, .getfield 19, 0, 2, []), (4, .iload_n 1, 1, 0, []), (5, .invokestatic 25, 72, 0, [(2, 1)]), (8, .ireturn, 0, 0, [])], [], 2, 1)
def zt_4 : zT := ([(0, .aload_n 0, 0, 0, []), (1, .getfield 22, 0, 3, []), (4, .iload_n 1, 1, 0, []), (5, .invokestatic 25, 72, 0, [(2, 1)]), (8, .iconst 1, 0, 1, []), (9, .if_icmp .ne 7, 16, 0, []), (12, .iconst 1, 0, 1, []), (13, .goto 4, 17, 0, []), (16, .iconst 0, 0, 0, []), (17, .ireturn, 0, 0, [])], [], 2, 2)
def zt_5 : zT := ([(0, .aload_n 0, 0, 0, []), (1, .getfield 22, 0, 3, []), (4, .iload_n 1, 1, 0, []), (5, .iload_n 2, 2, 0, []), (6, .invokestatic 31, 73, 0, [(3, 0)]), (9, .return_, 0, 0, [])], [], 3, 0)
def zt_6 : zT := ([(0, .aload_n 0, 0, 0, []), (1, .getfield 22, 0, 3, []), (4, .aload_n 0, 0, 0, []), (5, .getfield 9, 0, 0, []), (8, .invokestatic 35, 75, 0, [(2, 1)]), (11, .ireturn, 0, 0, [])], [], 1, 1)
def zt_7 : zT := ([(0, .iconst 0, 0, 0, []), (1, .istore_n 2, 2, 0, []), (2, .iconst 0, 0, 0, []), (3, .istore_n 3, 3, 0, []), (4, .iload_n 3, 3, 0, []), (5, .aload_n 0, 0, 0, []), (6, .getfield 9, 0, 0, []), (9, .if_icmp .ge 43, 52, 0, []), (12, .iload_n 3, 3, 0, []), (13, .iload_n 1, 1, 0, []), (14, .if_icmp .eq 32, 46, 0, []), (17, .aload_n 0, 0, 0, []), (18, .iload_n 3, 3, 0, []), (19, .invokevirtual 38, 2, 0, [(2, 1)]), (22, .aload_n 0, 0, 0, []), (23, .iload_n 1, 1, 0, []), (24, .invokevirtual 38, 2, 0, [(2, 1)]), (27, .if_icmp .gt 19, 46, 0, []), (30, .aload_n 0, 0, 0, []), (31, .iload_n 1, 1, 0, []), (32, .invokevirtual 42, 3, 0, [(2, 1)]), (35, .aload_n 0, 0, 0, []), (36, .iload_n 3, 3, 0, []), (37, .invokevirtual 42, 3, 0, [(2, 1)]), (40, .if_icmp .gt 6, 46, 0, []), (43, .iinc 2 1, 2, 1, []), (46, .iinc 3 1, 3, 1, []), (49, .goto (-45), 4, 0, []), (52, .iload_n 2, 2, 0, []), (53, .ireturn, 0, 0, [])], [(4, [true, true, true, true])], 4, 1)
def zt_8 : zT := ([(0, .iconst 0, 0, 0, []), (1, .istore_n 2, 2, 0, []), (2, .iload_n 2, 2, 0, []), (3, .aload_n 0, 0, 0, []), (4, .getfield 9, 0, 0, []), (7, .if_icmp .ge 37, 44, 0, []), (10, .aload_n 0, 0, 0, []), (11, .iload_n 2, 2, 0, []), (12, .invokevirtual 45, 4, 0, [(2, 2)]), (15, .ifCond .eq 23, 38, 0, []), (18, .aload_n 0, 0, 0, []), (19, .iload_n 2, 2, 0, []), (20, .invokevirtual 38, 2, 0, [(2, 1)]), (23, .iload_n 1, 1, 0, []), (24, .if_icmp .ge 14, 38, 0, []), (27, .iload_n 1, 1, 0, []), (28, .aload_n 0, 0, 0, []), (29, .iload_n 2, 2, 0, []), (30, .invokevirtual 42, 3, 0, [(2, 1)]), (33, .if_icmp .gt 5, 38, 0, []), (36, .iconst 1, 0, 1, []), (37, .ireturn, 0, 0, []), (38, .iinc 2 1, 2, 1, []), (41, .goto (-39), 2, 0, []), (44, .iconst 0, 0, 0, []), (45, .ireturn, 0, 0, [])], [(2, [true, true, true])], 3, 2)
def zt_9 : zT := ([(0, .iconst 0, 0, 0, []), (1, .istore_n 2, 2, 0, []), (2, .iload_n 2, 2, 0, []), (3, .aload_n 0, 0, 0, []), (4, .getfield 9, 0, 0, []), (7, .if_icmp .ge 28, 35, 0, []), (10, .aload_n 0, 0, 0, []), (11, .iload_n 2, 2, 0, []), (12, .invokevirtual 45, 4, 0, [(2, 2)]), (15, .ifCond .eq 14, 29, 0, []), (18, .aload_n 0, 0, 0, []), (19, .iload_n 2, 2, 0, []), (20, .invokevirtual 38, 2, 0, [(2, 1)]), (23, .iload_n 1, 1, 0, []), (24, .if_icmp .ne 5, 29, 0, []), (27, .iconst 1, 0, 1, []), (28, .ireturn, 0, 0, []), (29, .iinc 2 1, 2, 1, []), (32, .goto (-30), 2, 0, []), (35, .iconst 0, 0, 0, []), (36, .ireturn, 0, 0, [])], [(2, [true, true, true])], 3, 2)
def zt_10 : zT := ([(0, .iconst 0, 0, 0, []), (1, .istore_n 3, 3, 0, []), (2, .iload_n 3, 3, 0, []), (3, .aload_n 0, 0, 0, []), (4, .getfield 9, 0, 0, []), (7, .if_icmp .ge 29, 36, 0, []), (10, .aload_n 0, 0, 0, []), (11, .iload_n 3, 3, 0, []), (12, .invokevirtual 38, 2, 0, [(2, 1)]), (15, .aload_n 0, 0, 0, []), (16, .iload_n 3, 3, 0, []), (17, .invokevirtual 42, 3, 0, [(2, 1)]), (20, .iload_n 1, 1, 0, []), (21, .iload_n 2, 2, 0, []), (22, .invokestatic 49, 16, 0, [(4, 2)]), (25, .ifCond .eq 5, 30, 0, []), (28, .iconst 1, 0, 1, []), (29, .ireturn, 0, 0, []), (30, .iinc 3 1, 3, 1, []), (33, .goto (-31), 2, 0, []), (36, .iconst 0, 0, 0, []), (37, .ireturn, 0, 0, [])], [(2, [true, true, true, true])], 4, 2)
def zt_11 : zT := ([(0, .aload_n 0, 0, 0, []), (1, .getfield 9, 0, 0, []), (4, .istore_n 3, 3, 0, []), (5, .iload_n 3, 3, 0, []), (6, .ifCond .le 60, 66, 0, []), (9, .iload_n 1, 1, 0, []), (10, .iload_n 2, 2, 0, []), (11, .aload_n 0, 0, 0, []), (12, .iload_n 3, 3, 0, []), (13, .iconst 1, 0, 1, []), (14, .isub, 0, 0, []), (15, .invokevirtual 38, 2, 0, [(2, 1)]), (18, .aload_n 0, 0, 0, []), (19, .iload_n 3, 3, 0, []), (20, .iconst 1, 0, 1, []), (21, .isub, 0, 0, []), (22, .invokevirtual 42, 3, 0, [(2, 1)]), (25, .invokestatic 53, 17, 0, [(4, 2)]), (28, .ifCond .eq 38, 66, 0, []), (31, .aload_n 0, 0, 0, []), (32, .iload_n 3, 3, 0, []), (33, .aload_n 0, 0, 0, []), (34, .iload_n 3, 3, 0, []), (35, .iconst 1, 0, 1, []), (36, .isub, 0, 0, []), (37, .invokevirtual 38, 2, 0, [(2, 1)]), (40, .aload_n 0, 0, 0, []), (41, .iload_n 3, 3, 0, []), (42, .iconst 1, 0, 1, []), (43, .isub, 0, 0, []), (44, .invokevirtual 42, 3, 0, [(2, 1)]), (47, .aload_n 0, 0, 0, []), (48, .getfield 22, 0, 3, []), (51, .iload_n 3, 3, 0, []), (52, .iconst 1, 0, 1, []), (53, .isub, 0, 0, []), (54, .invokestatic 25, 72, 0, [(2, 1)]), (57, .invokevirtual 56, 18, 0, [(5, 0)]), (60, .iinc 3 (-1), 3, (-1), []), (63, .goto (-58), 5, 0, []), (66, .aload_n 0, 0, 0, []), (67, .iload_n 3, 3, 0, []), (68, .iload_n 1, 1, 0, []), (69, .iload_n 2, 2, 0, []), (70, .iconst 0, 0, 0, []), (71, .invokevirtual 56, 18, 0, [(5, 0)]), (74, .aload_n 0, 0, 0, []), (75, .dup, 0, 0, []), (76, .getfield 9, 0, 0, []), (79, .iconst 1, 0, 1, []), (80, .iadd, 0, 0, []), (81, .putfield 9, 0, 0, []), (84, .iload_n 3, 3, 0, []), (85, .ireturn, 0, 0, [])], [(5, [true, true, true, true])], 4, 1)
def zt_12 : zT := ([(0, .aload_n 0, 0, 0, []), (1, .iconst 0, 0, 0, []), (2, .putfield 9, 0, 0, []), (5, .return_, 0, 0, [])], [], 1, 0)
def zt_13 : zT := ([(0, .iconst 0, 0, 0, []), (1, .istore_n 2, 2, 0, []), (2, .iload_n 2, 2, 0, []), (3, .aload_n 0, 0, 0, []), (4, .getfield 9, 0, 0, []), (7, .if_icmp .ge 73, 80, 0, []), (10, .aload_n 0, 0, 0, []), (11, .getfield 15, 0, 1, []), (14, .iload_n 2, 2, 0, []), (15, .aload_n 0, 0, 0, []), (16, .iload_n 2, 2, 0, []), (17, .invokevirtual 38, 2, 0, [(2, 1)]), (20, .iload_n 1, 1, 0, []), (21, .if_icmp .le 13, 34, 0, []), (24, .aload_n 0, 0, 0, []), (25, .iload_n 2, 2, 0, []), (26, .invokevirtual 38, 2, 0, [(2, 1)]), (29, .iconst 1, 0, 1, []), (30, .iadd, 0, 0, []), (31, .goto 8, 39, 0, []), (34, .aload_n 0, 0, 0, []), (35, .iload_n 2, 2, 0, []), (36, .invokevirtual 38, 2, 0, [(2, 1)]), (39, .invokestatic 31, 73, 0, [(3, 0)]), (42, .aload_n 0, 0, 0, []), (43, .getfield 19, 0, 2, []), (46, .iload_n 2, 2, 0, []), (47, .aload_n 0, 0, 0, []), (48, .iload_n 2, 2, 0, []), (49, .invokevirtual 42, 3, 0, [(2, 1)]), (52, .iload_n 1, 1, 0, []), (53, .if_icmp .lt 13, 66, 0, []), (56, .aload_n 0, 0, 0, []), (57, .iload_n 2, 2, 0, []), (58, .invokevirtual 42, 3, 0, [(2, 1)]), (61, .iconst 1, 0, 1, []), (62, .iadd, 0, 0, []), (63, .goto 8, 71, 0, []), (66, .aload_n 0, 0, 0, []), (67, .iload_n 2, 2, 0, []), (68, .invokevirtual 42, 3, 0, [(2, 1)]), (71, .invokestatic 31, 73, 0, [(3, 0)]), (74, .iinc 2 1, 2, 1, []), (77, .goto (-75), 2, 0, []), (80, .return_, 0, 0, [])], [(2, [true, true, true])], 3, 0)
def zt_14 : zT := ([(0, .aload_n 0, 0, 0, []), (1, .getfield 9, 0, 0, []), (4, .istore_n 2, 2, 0, []), (5, .aload_n 0, 0, 0, []), (6, .iconst 0, 0, 0, []), (7, .putfield 9, 0, 0, []), (10, .iconst 0, 0, 0, []), (11, .istore_n 3, 3, 0, []), (12, .iload_n 3, 3, 0, []), (13, .iload_n 2, 2, 0, []), (14, .if_icmp .ge 109, 123, 0, []), (17, .aload_n 0, 0, 0, []), (18, .iload_n 3, 3, 0, []), (19, .invokevirtual 38, 2, 0, [(2, 1)]), (22, .iload_n 1, 1, 0, []), (23, .if_icmp .le 13, 36, 0, []), (26, .aload_n 0, 0, 0, []), (27, .iload_n 3, 3, 0, []), (28, .invokevirtual 38, 2, 0, [(2, 1)]), (31, .iconst 1, 0, 1, []), (32, .isub, 0, 0, []), (33, .goto 8, 41, 0, []), (36, .aload_n 0, 0, 0, []), (37, .iload_n 3, 3, 0, []), (38, .invokevirtual 38, 2, 0, [(2, 1)]), (41, .istore 4, 4, 0, []), (43, .aload_n 0, 0, 0, []), (44, .iload_n 3, 3, 0, []), (45, .invokevirtual 42, 3, 0, [(2, 1)]), (48, .iload_n 1, 1, 0, []), (49, .if_icmp .le 13, 62, 0, []), (52, .aload_n 0, 0, 0, []), (53, .iload_n 3, 3, 0, []), (54, .invokevirtual 42, 3, 0, [(2, 1)]), (57, .iconst 1, 0, 1, []), (58, .isub, 0, 0, []), (59, .goto 8, 67, 0, []), (62, .aload_n 0, 0, 0, []), (63, .iload_n 3, 3, 0, []), (64, .invokevirtual 42, 3, 0, [(2, 1)]), (67, .istore 5, 5, 0, []), (69, .iload 4, 4, 0, []), (71, .iload 5, 5, 0, []), (73, .if_icmp .ge 44, 117, 0, []), (76, .aload_n 0, 0, 0, []), (77, .iload 4, 4, 0, []), (79, .iload 5, 5, 0, []), (81, .invokevirtual 60, 10, 0, [(3, 2)]), (84, .ifCond .ne 33, 117, 0, []), (87, .aload_n 0, 0, 0, []), (88, .aload_n 0, 0, 0, []), (89, .getfield 9, 0, 0, []), (92, .iload 4, 4, 0, []), (94, .iload 5, 5, 0, []), (96, .aload_n 0, 0, 0, []), (97, .getfield 22, 0, 3, []), (100, .iload_n 3, 3, 0, []), (101, .invokestatic 25, 72, 0, [(2, 1)]), (104, .invokevirtual 56, 18, 0, [(5, 0)]), (107, .aload_n 0, 0, 0, []), (108, .dup, 0, 0, []), (109, .getfield 9, 0, 0, []), (112, .iconst 1, 0, 1, []), (113, .iadd, 0, 0, []), (114, .putfield 9, 0, 0, []), (117, .iinc 3 1, 3, 1, []), (120, .goto (-108), 12, 0, []), (123, .return_, 0, 0, [])], [(12, [true, true, true, true, false, false]), (67, [true, true, true, true, true, false])], 6, 0)
def zt_15 : zT := ([(0, .aload_n 0, 0, 0, []), (1, .aload_n 1, 1, 0, []), (2, .getfield 9, 0, 0, []), (5, .putfield 9, 0, 0, []), (8, .aload_n 1, 1, 0, []), (9, .getfield 15, 0, 1, []), (12, .aload_n 0, 0, 0, []), (13, .getfield 15, 0, 1, []), (16, .invokestatic 64, 74, 0, [(2, 0)]), (19, .aload_n 1, 1, 0, []), (20, .getfield 19, 0, 2, []), (23, .aload_n 0, 0, 0, []), (24, .getfield 19, 0, 2, []), (27, .invokestatic 64, 74, 0, [(2, 0)]), (30, .aload_n 1, 1, 0, []), (31, .getfield 22, 0, 3, []), (34, .aload_n 0, 0, 0, []), (35, .getfield 22, 0, 3, []), (38, .invokestatic 64, 74, 0, [(2, 0)]), (41, .return_, 0, 0, [])], [], 2, 0)
def zt_16 : zT := ([(0, .iload_n 0, 0, 0, []), (1, .iload_n 2, 2, 0, []), (2, .if_icmp .ne 10, 12, 0, []), (5, .iload_n 1, 1, 0, []), (6, .iload_n 3, 3, 0, []), (7, .if_icmp .ne 5, 12, 0, []), (10, .iconst 1, 0, 1, []), (11, .ireturn, 0, 0, []), (12, .iload_n 1, 1, 0, []), (13, .iload_n 2, 2, 0, []), (14, .if_icmp .lt 8, 22, 0, []), (17, .iload_n 3, 3, 0, []), (18, .iload_n 0, 0, 0, []), (19, .if_icmp .ge 7, 26, 0, []), (22, .iconst 1, 0, 1, []), (23, .goto 4, 27, 0, []), (26, .iconst 0, 0, 0, []), (27, .istore 4, 4, 0, []), (29, .iload_n 0, 0, 0, []), (30, .iload_n 2, 2, 0, []), (31, .if_icmp .gt 8, 39, 0, []), (34, .iload_n 3, 3, 0, []), (35, .iload_n 1, 1, 0, []), (36, .if_icmp .le 13, 49, 0, []), (39, .iload_n 2, 2, 0, []), (40, .iload_n 0, 0, 0, []), (41, .if_icmp .gt 12, 53, 0, []), (44, .iload_n 1, 1, 0, []), (45, .iload_n 3, 3, 0, []), (46, .if_icmp .gt 7, 53, 0, []), (49, .iconst 1, 0, 1, []), (50, .goto 4, 54, 0, []), (53, .iconst 0, 0, 0, []), (54, .istore 5, 5, 0, []), (56, .iload 4, 4, 0, []), (58, .ifCond .ne 12, 70, 0, []), (61, .iload 5, 5, 0, []), (63, .ifCond .ne 7, 70, 0, []), (66, .iconst 1, 0, 1, []), (67, .goto 4, 71, 0, []), (70, .iconst 0, 0, 0, []), (71, .ireturn, 0, 0, [])], [(12, [true, true, true, true, false, false]), (27, [true, true, true, true, false, false]), (54, [false, false, false, false, true, false])], 6, 2)
def zt_17 : zT := ([(0, .iload_n 0, 0, 0, []), (1, .iload_n 2, 2, 0, []), (2, .if_icmp .lt 13, 15, 0, []), (5, .iload_n 0, 0, 0, []), (6, .iload_n 2, 2, 0, []), (7, .if_icmp .ne 12, 19, 0, []), (10, .iload_n 1, 1, 0, []), (11, .iload_n 3, 3, 0, []), (12, .if_icmp .le 7, 19, 0, []), (15, .iconst 1, 0, 1, []), (16, .goto 4, 20, 0, []), (19, .iconst 0, 0, 0, []), (20, .ireturn, 0, 0, [])], [], 4, 2)
def zt_18 : zT := ([(0, .aload_n 0, 0, 0, []), (1, .getfield 15, 0, 1, []), (4, .iload_n 1, 1, 0, []), (5, .iload_n 2, 2, 0, []), (6, .invokestatic 31, 73, 0, [(3, 0)]), (9, .aload_n 0, 0, 0, []), (10, .getfield 19, 0, 2, []), (13, .iload_n 1, 1, 0, []), (14, .iload_n 3, 3, 0, []), (15, .invokestatic 31, 73, 0, [(3, 0)]), (18, .aload_n 0, 0, 0, []), (19, .getfield 22, 0, 3, []), (22, .iload_n 1, 1, 0, []), (23, .iload 4, 4, 0, []), (25, .invokestatic 31, 73, 0, [(3, 0)]), (28, .return_, 0, 0, [])], [], 5, 0)
def zt_19 : zT := ([(0, .aload_n 0, 0, 0, []), (1, .invokespecial 1, 1000, 1, [(1, 0)]), (4, .aload_n 0, 0, 0, []), (5, .new 7, 5, 3, []), (8, .dup, 0, 0, []), (9, .invokespecial 9, 55, 5, [(1, 0)]), (12, .putfield 10, 1, 0, []), (15, .aload_n 0, 0, 0, []), (16, .new 16, 0, 4, []), (19, .dup, 0, 0, []), (20, .invokespecial 18, 0, 0, [(1, 0)]), (23, .putfield 19, 1, 1, []), (26, .aload_n 0, 0, 0, []), (27, .iconst 0, 0, 0, []), (28, .putfield 23, 1, 2, []), (31, .aload_n 0, 0, 0, []), (32, .iconst 0, 0, 0, []), (33, .putfield 27, 1, 3, []), (36, .return_, 0, 0, [])], [], 1, 0)
def zt_20 : zT := ([(0, .aload_n 0, 0, 0, []), (1, .getfield 10, 1, 0, []), (4, .invokevirtual 30, 61, 5, [(1, 0)]), (7, .aload_n 0, 0, 0, []), (8, .getfield 19, 1, 1, []), (11, .invokevirtual 33, 12, 0, [(1, 0)]), (14, .aload_n 0, 0, 0, []), (15, .iconst 0, 0, 0, []), (16, .putfield 23, 1, 2, []), (19, .aload_n 0, 0, 0, []), (20, .iconst 0, 0, 0, []), (21, .putfield 27, 1, 3, []), (24, .return_, 0, 0, [])], [], 1, 0)
def zt_21 : zT := ([(0, .aload_n 0, 0, 0, []), (1, .getfield 10, 1, 0, []), (4, .aload_n 1, 1, 0, []), (5, .getfield 10, 1, 0, []), (8, .invokevirtual 34, 68, 5, [(2, 0)]), (11, .aload_n 0, 0, 0, []), (12, .getfield 19, 1, 1, []), (15, .aload_n 1, 1, 0, []), (16, .getfield 19, 1, 1, []), (19, .invokevirtual 38, 15, 0, [(2, 0)]), (22, .aload_n 0, 0, 0, []), (23, .aload_n 1, 1, 0, []), (24, .getfield 23, 1, 2, []), (27, .putfield 23, 1, 2, []), (30, .aload_n 0, 0, 0, []), (31, .aload_n 1, 1, 0, []), (32, .getfield 27, 1, 3, []), (35, .putfield 27, 1, 3, []), (38, .return_, 0, 0, [])], [], 2, 0)
def zt_22 : zT := ([(0, .iconst 0, 0, 0, []), (1, .istore_n 1, 1, 0, []), (2, .iconst 0, 0, 0, []), (3, .istore_n 2, 2, 0, []), (4, .iload_n 2, 2, 0, []), (5, .aload_n 0, 0, 0, []), (6, .getfield 10, 1, 0, []), (9, .getfield 41, 5, 0, []), (12, .if_icmp .ge 23, 35, 0, []), (15, .aload_n 0, 0, 0, []), (16, .getfield 19, 1, 1, []), (19, .iload_n 2, 2, 0, []), (20, .invokevirtual 44, 8, 0, [(2, 2)]), (23, .ifCond .eq 6, 29, 0, []), (26, .iinc 1 1, 1, 1, []), (29, .iinc 2 1, 2, 1, []), (32, .goto (-28), 4, 0, []), (35, .iload_n 1, 1, 0, []), (36, .ireturn, 0, 0, [])], [(4, [true, true, true])], 3, 1)
def zt_23 : zT := ([(0, .aload_n 0, 0, 0, []), (1, .getfield 23, 1, 2, []), (4, .iconst 1, 0, 1, []), (5, .isub, 0, 0, []), (6, .istore_n 1, 1, 0, []), (7, .iload_n 1, 1, 0, []), (8, .ifCond .lt 22, 30, 0, []), (11, .aload_n 0, 0, 0, []), (12, .getfield 19, 1, 1, []), (15, .iload_n 1, 1, 0, []), (16, .invokevirtual 44, 8, 0, [(2, 2)]), (19, .ifCond .ne 5, 24, 0, []), (22, .iload_n 1, 1, 0, []), (23, .ireturn, 0, 0, []), (24, .iinc 1 (-1), 1, (-1), []), (27, .goto (-20), 7, 0, []), (30, .iconst (-1), 0, (-1), []), (31, .ireturn, 0, 0, [])], [(7, [true, true])], 2, 1)
def zt_24 : zT := ([(0, .aload_n 0, 0, 0, []), (1, .getfield 23, 1, 2, []), (4, .iconst 1, 0, 1, []), (5, .iadd, 0, 0, []), (6, .istore_n 1, 1, 0, []), (7, .iload_n 1, 1, 0, []), (8, .aload_n 0, 0, 0, []), (9, .getfield 10, 1, 0, []), (12, .getfield 41, 5, 0, []), (15, .if_icmp .ge 22, 37, 0, []), (18, .aload_n 0, 0, 0, []), (19, .getfield 19, 1, 1, []), (22, .iload_n 1, 1, 0, []), (23, .invokevirtual 44, 8, 0, [(2, 2)]), (26, .ifCond .ne 5, 31, 0, []), (29, .iload_n 1, 1, 0, []), (30, .ireturn, 0, 0, []), (31, .iinc 1 1, 1, 1, []), (34, .goto (-27), 7, 0, []), (37, .iconst (-1), 0, (-1), []), (38, .ireturn, 0, 0, [])], [(7, [true, true])], 2, 1)
def zt_25 : zT := ([(0, .aload_n 0, 0, 0, []), (1, .invokespecial 3, 1000, 2, [(1, 0)]), (4, .aload_n 0, 0, 0, []), (5, .bipush 16, 0, 16, []), (7, .anewarray 9, 14, 0, []), (10, .putfield 11, 2, 0, []), (13, .aload_n 0, 0, 0, []), (14, .iconst 0, 0, 0, []), (15, .putfield 17, 2, 1, []), (18, .aload_n 0, 0, 0, []), (19, .iconst 0, 0, 0, []), (20, .putfield 21, 2, 2, []), (23, .iconst 0, 0, 0, []), (24, .istore_n 1, 1, 0, []), (25, .iload_n 1, 1, 0, []), (26, .aload_n 0, 0, 0, []), (27, .getfield 11, 2, 0, []), (30, .arraylength, 14, 0, []), (31, .if_icmp .ge 22, 53, 0, []), (34, .aload_n 0, 0, 0, []), (35, .getfield 11, 2, 0, []), (38, .iload_n 1, 1, 0, []), (39, .new 9, 1, 4, []), (42, .dup, 0, 0, []), (43, .invokespecial 24, 19, 1, [(1, 0)]), (46, .aastore, 14, 1, []), (47, .iinc 1 1, 1, 1, []), (50, .goto (-25), 25, 0, []), (53, .return_, 0, 0, [])], [(25, [true, true])], 2, 0)
def zt_26 : zT := ([(0, .aload_n 0, 0, 0, []), (1, .iconst 0, 0, 0, []), (2, .putfield 17, 2, 1, []), (5, .aload_n 0, 0, 0, []), (6, .iconst 0, 0, 0, []), (7, .putfield 21, 2, 2, []), (10, .return_, 0, 0, [])], [], 1, 0)
def zt_27 : zT := ([(0, .aload_n 0, 0, 0, []), (1, .iconst 0, 0, 0, []), (2, .putfield 21, 2, 2, []), (5, .aload_n 0, 0, 0, []), (6, .getfield 17, 2, 1, []), (9, .bipush 16, 0, 16, []), (11, .if_icmp .lt 7, 18, 0, []), (14, .aload_n 0, 0, 0, []), (15, .invokevirtual 25, 31, 2, [(1, 0)]), (18, .aload_n 0, 0, 0, []), (19, .getfield 17, 2, 1, []), (22, .ifCond .lt 50, 72, 0, []), (25, .aload_n 0, 0, 0, []), (26, .getfield 17, 2, 1, []), (29, .aload_n 0, 0, 0, []), (30, .getfield 11, 2, 0, []), (33, .arraylength, 14, 0, []), (34, .if_icmp .ge 38, 72, 0, []), (37, .aload_n 0, 0, 0, []), (38, .getfield 11, 2, 0, []), (41, .aload_n 0, 0, 0, []), (42, .getfield 17, 2, 1, []), (45, .aaload, 14, 0, []), (46, .ifnull 26, 72, 0, []), (49, .aload_n 0, 0, 0, []), (50, .getfield 11, 2, 0, []), (53, .aload_n 0, 0, 0, []), (54, .getfield 17, 2, 1, []), (57, .aaload, 14, 0, []), (58, .aload_n 1, 1, 0, []), (59, .invokevirtual 28, 21, 1, [(2, 0)]), (62, .aload_n 0, 0, 0, []), (63, .dup, 0, 0, []), (64, .getfield 17, 2, 1, []), (67, .iconst 1, 0, 1, []), (68, .iadd, 0, 0, []), (69, .putfield 17, 2, 1, []), (72, .return_, 0, 0, [])], [(18, [true, true])], 2, 0)
def zt_28 : zT := ([(0, .aload_n 0, 0, 0, []), (1, .getfield 17, 2, 1, []), (4, .ifCond .gt 5, 9, 0, []), (7, .aload_n 1, 1, 0, []), (8, .areturn, 0, 0, []), (9, .aload_n 0, 0, 0, []), (10, .dup, 0, 0, []), (11, .getfield 17, 2, 1, []), (14, .iconst 1, 0, 1, []), (15, .isub, 0, 0, []), (16, .putfield 17, 2, 1, []), (19, .aload_n 0, 0, 0, []), (20, .dup, 0, 0, []), (21, .getfield 21, 2, 2, []), (24, .iconst 1, 0, 1, []), (25, .iadd, 0, 0, []), (26, .putfield 21, 2, 2, []), (29, .aload_n 0, 0, 0, []), (30, .aload_n 0, 0, 0, []), (31, .getfield 17, 2, 1, []), (34, .aload_n 1, 1, 0, []), (35, .invokevirtual 32, 30, 2, [(3, 3)]), (38, .areturn, 0, 0, [])], [], 2, 3)
def zt_29 : zT := ([(0, .aload_n 0, 0, 0, []), (1, .getfield 21, 2, 2, []), (4, .ifCond .gt 5, 9, 0, []), (7, .aload_n 1, 1, 0, []), (8, .areturn, 0, 0, []), (9, .aload_n 0, 0, 0, []), (10, .aload_n 0, 0, 0, []), (11, .getfield 17, 2, 1, []), (14, .aload_n 1, 1, 0, []), (15, .invokevirtual 32, 30, 2, [(3, 3)]), (18, .astore_n 2, 2, 0, []), (19, .aload_n 0, 0, 0, []), (20, .dup, 0, 0, []), (21, .getfield 17, 2, 1, []), (24, .iconst 1, 0, 1, []), (25, .iadd, 0, 0, []), (26, .putfield 17, 2, 1, []), (29, .aload_n 0, 0, 0, []), (30, .dup, 0, 0, []), (31, .getfield 21, 2, 2, []), (34, .iconst 1, 0, 1, []), (35, .isub, 0, 0, []), (36, .putfield 21, 2, 2, []), (39, .aload_n 2, 2, 0, []), (40, .areturn, 0, 0, [])], [], 3, 3)
def zt_30 : zT := ([(0, .iload_n 1, 1, 0, []), (1, .ifCond .lt 21, 22, 0, []), (4, .iload_n 1, 1, 0, []), (5, .aload_n 0, 0, 0, []), (6, .getfield 11, 2, 0, []), (9, .arraylength, 14, 0, []), (10, .if_icmp .ge 12, 22, 0, []), (13, .aload_n 0, 0, 0, []), (14, .getfield 11, 2, 0, []), (17, .iload_n 1, 1, 0, []), (18, .aaload, 14, 0, []), (19, .ifnonnull 5, 24, 0, []), (22, .aload_n 2, 2, 0, []), (23, .areturn, 0, 0, []), (24, .aload_n 0, 0, 0, []), (25, .getfield 11, 2, 0, []), (28, .iload_n 1, 1, 0, []), (29, .aaload, 14, 0, []), (30, .astore_n 3, 3, 0, []), (31, .aload_n 0, 0, 0, []), (32, .getfield 11, 2, 0, []), (35, .iload_n 1, 1, 0, []), (36, .aload_n 2, 2, 0, []), (37, .aastore, 14, 1, []), (38, .aload_n 3, 3, 0, []), (39, .areturn, 0, 0, [])], [], 4, 3)
def zt_31 : zT := ([(0, .iconst 0, 0, 0, []), (1, .istore_n 1, 1, 0, []), (2, .iload_n 1, 1, 0, []), (3, .iconst 1, 0, 1, []), (4, .iadd, 0, 0, []), (5, .aload_n 0, 0, 0, []), (6, .getfield 11, 2, 0, []), (9, .arraylength, 14, 0, []), (10, .if_icmp .ge 39, 49, 0, []), (13, .aload_n 0, 0, 0, []), (14, .getfield 11, 2, 0, []), (17, .iload_n 1, 1, 0, []), (18, .aaload, 14, 0, []), (19, .astore_n 2, 2, 0, []), (20, .aload_n 0, 0, 0, []), (21, .getfield 11, 2, 0, []), (24, .iload_n 1, 1, 0, []), (25, .aload_n 0, 0, 0, []), (26, .getfield 11, 2, 0, []), (29, .iload_n 1, 1, 0, []), (30, .iconst 1, 0, 1, []), (31, .iadd, 0, 0, []), (32, .aaload, 14, 0, []), (33, .aastore, 14, 1, []), (34, .aload_n 0, 0, 0, []), (35, .getfield 11, 2, 0, []), (38, .iload_n 1, 1, 0, []), (39, .iconst 1, 0, 1, []), (40, .iadd, 0, 0, []), (41, .aload_n 2, 2, 0, []), (42, .aastore, 14, 1, []), (43, .iinc 1 1, 1, 1, []), (46, .goto (-44), 2, 0, []), (49, .aload_n 0, 0, 0, []), (50, .dup, 0, 0, []), (51, .getfield 17, 2, 1, []), (54, .iconst 1, 0, 1, []), (55, .isub, 0, 0, []), (56, .putfield 17, 2, 1, []), (59, .return_, 0, 0, [])], [(2, [true, true, false])], 3, 0)
def zt_32 : zT := ([(0, .aload_n 0, 0, 0, []), (1, .invokespecial 1, 1000, 3, [(1, 0)]), (4, .aload_n 0, 0, 0, []), (5, .new 7, 1, 4, []), (8, .dup, 0, 0, []), (9, .invokespecial 9, 19, 1, [(1, 0)]), (12, .putfield 10, 3, 0, []), (15, .aload_n 0, 0, 0, []), (16, .new 16, 7, 4, []), (19, .dup, 0, 0, []), (20, .invokespecial 18, 83, 7, [(1, 0)]), (23, .putfield 19, 3, 1, []), (26, .aload_n 0, 0, 0, []), (27, .iconst 0, 0, 0, []), (28, .putfield 23, 3, 2, []), (31, .return_, 0, 0, [])], [], 1, 0)
def zt_33 : zT := ([(0, .aload_n 0, 0, 0, []), (1, .invokespecial 3, 1000, 4, [(1, 0)]), (4, .aload_n 0, 0, 0, []), (5, .iconst 0, 0, 0, []), (6, .putfield 9, 4, 0, []), (9, .aload_n 0, 0, 0, []), (10, .iconst 1, 0, 1, []), (11, .putfield 15, 4, 1, []), (14, .aload_n 0, 0, 0, []), (15, .iconst 0, 0, 0, []), (16, .putfield 18, 4, 2, []), (19, .aload_n 0, 0, 0, []), (20, .bipush 41, 0, 41, []), (22, .newarray .int, 12, 0, []), (24, .putfield 21, 4, 3, []), (27, .aload_n 0, 0, 0, []), (28, .bipush 41, 0, 41, []), (30, .newarray .int, 12, 0, []), (32, .putfield 25, 4, 4, []), (35, .aload_n 0, 0, 0, []), (36, .bipush 41, 0, 41, []), (38, .newarray .int, 12, 0, []), (40, .putfield 28, 4, 5, []), (43, .aload_n 0, 0, 0, []), (44, .bipush 41, 0, 41, []), (46, .newarray .int, 12, 0, []), (48, .putfield 31, 4, 6, []), (51, .aload_n 0, 0, 0, []), (52, .bipush 41, 0, 41, []), (54, .newarray .int, 12, 0, []), (56, .putfield 34, 4, 7, []), (59, .aload_n 0, 0, 0, []), (60, .bipush 41, 0, 41, []), (62, .newarray .int, 12, 0, []), (64, .putfield 37, 4, 8, []), (67, .aload_n 0, 0, 0, []), (68, .bipush 42, 0, 42, []), (70, .newarray .int, 12, 0, []), (72, .putfield 40, 4, 9, []), (75, .aload_n 0, 0, 0, []), (76, .bipush 41, 0, 41, []), (78, .newarray .int, 12, 0, []), (80, .putfield 43, 4, 10, []), (83, .return_, 0, 0, [])], [], 1, 0)
def zt_34 : zT := ([(0, .aload_n 0, 0, 0, []), (1, .aload_n 1, 1, 0, []), (2, .iload_n 2, 2, 0, []), (3, .invokevirtual 46, 58, 5, [(2, 1)]), (6, .putfield 9, 4, 0, []), (9, .aload_n 0, 0, 0, []), (10, .aload_n 3, 3, 0, []), (11, .getfield 52, 7, 2, []), (14, .ifCond .ne 7, 21, 0, []), (17, .iconst 0, 0, 0, []), (18, .goto 24, 42, 0, []), (21, .aload_n 0, 0, 0, []), (22, .aload_n 1, 1, 0, []), (23, .iload_n 2, 2, 0, []), (24, .aload_n 3, 3, 0, []), (25, .invokevirtual 57, 50, 4, [(4, 1)]), (28, .aload_n 3, 3, 0, []), (29, .getfield 61, 7, 3, []), (32, .iadd, 0, 0, []), (33, .aload_n 3, 3, 0, []), (34, .getfield 64, 7, 0, []), (37, .iconst 2, 0, 2, []), (38, .idiv, 0, 0, []), (39, .invokestatic 67, 1002, 0, [(2, 1)]), (42, .putfield 18, 4, 2, []), (45, .aload_n 0, 0, 0, []), (46, .aload_n 1, 1, 0, []), (47, .iload_n 2, 2, 0, []), (48, .invokevirtual 73, 51, 4, [(3, 0)]), (51, .iconst 0, 0, 0, []), (52, .istore 4, 4, 0, []), (54, .iconst 0, 0, 0, []), (55, .istore 5, 5, 0, []), (57, .iload 5, 5, 0, []), (59, .bipush 40, 0, 40, []), (61, .if_icmp .gt 53, 114, 0, []), (64, .iload 5, 5, 0, []), (66, .ifCond .eq 12, 78, 0, []), (69, .iload 4, 4, 0, []), (71, .aload_n 0, 0, 0, []), (72, .getfield 9, 4, 0, []), (75, .if_icmp .ge 39, 114, 0, []), (78, .aload_n 0, 0, 0, []), (79, .getfield 40, 4, 9, []), (82, .iload 5, 5, 0, []), (84, .iload 4, 4, 0, []), (86, .invokestatic 77, 73, 0, [(3, 0)]), (89, .aload_n 0, 0, 0, []), (90, .aload_n 1, 1, 0, []), (91, .iload_n 2, 2, 0, []), (92, .iload 5, 5, 0, []), (94, .aload_n 3, 3, 0, []), (95, .invokevirtual 83, 53, 4, [(5, 1)]), (98, .istore 4, 4, 0, []), (100, .aload_n 0, 0, 0, []), (101, .iload 5, 5, 0, []), (103, .iconst 1, 0, 1, []), (104, .iadd, 0, 0, []), (105, .putfield 15, 4, 1, []), (108, .iinc 5 1, 5, 1, []), (111, .goto (-54), 57, 0, []), (114, .aload_n 0, 0, 0, []), (115, .getfield 40, 4, 9, []), (118, .aload_n 0, 0, 0, []), (119, .getfield 15, 4, 1, []), (122, .aload_n 0, 0, 0, []), (123, .getfield 9, 4, 0, []), (126, .invokestatic 77, 73, 0, [(3, 0)]), (129, .aload_n 0, 0, 0, []), (130, .getfield 21, 4, 3, []), (133, .aload_n 0, 0, 0, []), (134, .getfield 9, 4, 0, []), (137, .aload_n 0, 0, 0, []), (138, .getfield 15, 4, 1, []), (141, .iconst 1, 0, 1, []), (142, .isub, 0, 0, []), (143, .invokestatic 77, 73, 0, [(3, 0)]), (146, .aload_n 0, 0, 0, []), (147, .getfield 25, 4, 4, []), (150, .aload_n 0, 0, 0, []), (151, .getfield 9, 4, 0, []), (154, .aload_n 0, 0, 0, []), (155, .aload_n 0, 0, 0, []), (156, .getfield 15, 4, 1, []), (159, .iconst 1, 0, 1, []), (160, .isub, 0, 0, []), (161, .invokevirtual 87, 44, 4, [(2, 1)]), (164, .invokestatic 77, 73, 0, [(3, 0)]), (167, .aload_n 0, 0, 0, []), (168, .aload_n 1, 1, 0, []), (169, .iload_n 2, 2, 0, []), (170, .invokevirtual 90, 52, 4, [(3, 0)]), (173, .return_, 0, 0, [])], [(57, [true, true, true, true, true, true]), (114, [true, true, true, false, false, false])], 6, 0)
def zt_35 : zT := ([(0, .aload_n 0, 0, 0, []), (1, .getfield 34, 4, 7, []), (4, .aload_n 0, 0, 0, []), (5, .getfield 9, 4, 0, []), (8, .iconst 1, 0, 1, []), (9, .iadd, 0, 0, []), (10, .invokestatic 93, 75, 0, [(2, 1)]), (13, .ireturn, 0, 0, [])], [], 1, 1)
def zt_36 : zT := ([(0, .aload_n 0, 0, 0, []), (1, .getfield 37, 4, 8, []), (4, .aload_n 0, 0, 0, []), (5, .getfield 9, 4, 0, []), (8, .iconst 1, 0, 1, []), (9, .iadd, 0, 0, []), (10, .invokestatic 93, 75, 0, [(2, 1)]), (13, .ireturn, 0, 0, [])], [], 1, 1)
def zt_37 : zT := ([(0, .aload_n 0, 0, 0, []), (1, .getfield 31, 4, 6, []), (4, .aload_n 0, 0, 0, []), (5, .getfield 9, 4, 0, []), (8, .invokestatic 93, 75, 0, [(2, 1)]), (11, .ireturn, 0, 0, [])], [], 1, 1)
def zt_38 : zT := ([(0, .aload_n 0, 0, 0, []), (1, .getfield 34, 4, 7, []), (4, .iload_n 1, 1, 0, []), (5, .invokestatic 97, 72, 0, [(2, 1)]), (8, .iconst 1, 0, 1, []), (9, .if_icmp .ne 7, 16, 0, []), (12, .iconst 1, 0, 1, []), (13, .goto 4, 17, 0, []), (16, .iconst 0, 0, 0, []), (17, .ireturn, 0, 0, [])], [], 2, 2)
def zt_39 : zT := ([(0, .aload_n 0, 0, 0, []), (1, .getfield 37, 4, 8, []), (4, .iload_n 1, 1, 0, []), (5, .invokestatic 97, 72, 0, [(2, 1)]), (8, .iconst 1, 0, 1, []), (9, .if_icmp .ne 7, 16, 0, []), (12, .iconst 1, 0, 1, []), (13, .goto 4, 17, 0, []), (16, .iconst 0, 0, 0, []), (17, .ireturn, 0, 0, [])], [], 2, 2)
def zt_40 : zT := ([(0, .aload_n 0, 0, 0, []), (1, .getfield 21, 4, 3, []), (4, .iload_n 1, 1, 0, []), (5, .invokestatic 97, 72, 0, [(2, 1)]), (8, .ireturn, 0, 0, [])], [], 2, 1)
def zt_41 : zT := ([(0, .aload_n 0, 0, 0, []), (1, .getfield 25, 4, 4, []), (4, .iload_n 1, 1, 0, []), (5, .invokestatic 97, 72, 0, [(2, 1)]), (8, .ireturn, 0, 0, [])], [], 2, 1)
def zt_42 : zT := ([(0, .aload_n 0, 0, 0, []), (1, .getfield 40, 4, 9, []), (4, .iload_n 1, 1, 0, []), (5, .invokestatic 97, 72, 0, [(2, 1)]), (8, .ireturn, 0, 0, [])], [], 2, 1)
def zt_43 : zT := ([(0, .iload_n 1, 1, 0, []), (1, .ifCond .ne 7, 8, 0, []), (4, .iconst 0, 0, 0, []), (5, .goto 7, 12, 0, []), (8, .aload_n 0, 0, 0, []), (9, .getfield 18, 4, 2, []), (12, .ireturn, 0, 0, [])], [], 2, 1)
def zt_44 : zT := ([(0, .aload_n 0, 0, 0, []), (1, .getfield 43, 4, 10, []), (4, .iload_n 1, 1, 0, []), (5, .invokestatic 97, 72, 0, [(2, 1)]), (8, .ireturn, 0, 0, [])], [], 2, 1)
def zt_45 : zT := ([(0, .aload_n 0, 0, 0, []), (1, .iload_n 1, 1, 0, []), (2, .iconst 1, 0, 1, []), (3, .iadd, 0, 0, []), (4, .invokevirtual 100, 42, 4, [(2, 1)]), (7, .istore_n 3, 3, 0, []), (8, .aload_n 0, 0, 0, []), (9, .iload_n 1, 1, 0, []), (10, .invokevirtual 100, 42, 4, [(2, 1)]), (13, .istore 4, 4, 0, []), (15, .iload 4, 4, 0, []), (17, .iload_n 3, 3, 0, []), (18, .if_icmp .ge 42, 60, 0, []), (21, .aload_n 0, 0, 0, []), (22, .iload 4, 4, 0, []), (24, .invokevirtual 103, 41, 4, [(2, 1)]), (27, .istore 5, 5, 0, []), (29, .iload 5, 5, 0, []), (31, .iload_n 2, 2, 0, []), (32, .if_icmp .gt 22, 54, 0, []), (35, .iload_n 2, 2, 0, []), (36, .iload 5, 5, 0, []), (38, .aload_n 0, 0, 0, []), (39, .getfield 28, 4, 5, []), (42, .iload 4, 4, 0, []), (44, .invokestatic 97, 72, 0, [(2, 1)]), (47, .iadd, 0, 0, []), (48, .if_icmp .ge 6, 54, 0, []), (51, .iload 4, 4, 0, []), (53, .ireturn, 0, 0, []), (54, .iinc 4 1, 4, 1, []), (57, .goto (-42), 15, 0, []), (60, .iconst (-1), 0, (-1), []), (61, .ireturn, 0, 0, [])], [(15, [true, false, true, true, true, false])], 6, 1)
def zt_46 : zT := ([(0, .aload_n 0, 0, 0, []), (1, .iload_n 1, 1, 0, []), (2, .invokevirtual 100, 42, 4, [(2, 1)]), (5, .istore_n 3, 3, 0, []), (6, .iload_n 3, 3, 0, []), (7, .iconst 1, 0, 1, []), (8, .iadd, 0, 0, []), (9, .istore 4, 4, 0, []), (11, .iload 4, 4, 0, []), (13, .aload_n 0, 0, 0, []), (14, .getfield 9, 4, 0, []), (17, .if_icmp .gt 41, 58, 0, []), (20, .aload_n 0, 0, 0, []), (21, .iload 4, 4, 0, []), (23, .invokevirtual 106, 40, 4, [(2, 1)]), (26, .iload_n 1, 1, 0, []), (27, .if_icmp .ne 25, 52, 0, []), (30, .aload_n 0, 0, 0, []), (31, .iload 4, 4, 0, []), (33, .invokevirtual 109, 38, 4, [(2, 2)]), (36, .ifCond .eq 16, 52, 0, []), (39, .aload_n 0, 0, 0, []), (40, .iload 4, 4, 0, []), (42, .invokevirtual 103, 41, 4, [(2, 1)]), (45, .iload_n 2, 2, 0, []), (46, .if_icmp .gt 6, 52, 0, []), (49, .iload 4, 4, 0, []), (51, .istore_n 3, 3, 0, []), (52, .iinc 4 1, 4, 1, []), (55, .goto (-44), 11, 0, []), (58, .iload_n 3, 3, 0, []), (59, .ireturn, 0, 0, [])], [(11, [true, true, true, true, true])], 5, 1)
def zt_47 : zT := ([(0, .iload_n 1, 1, 0, []), (1, .istore_n 2, 2, 0, []), (2, .iload_n 2, 2, 0, []), (3, .aload_n 0, 0, 0, []), (4, .getfield 9, 4, 0, []), (7, .if_icmp .ge 19, 26, 0, []), (10, .aload_n 0, 0, 0, []), (11, .iload_n 2, 2, 0, []), (12, .invokevirtual 109, 38, 4, [(2, 2)]), (15, .ifCond .eq 5, 20, 0, []), (18, .iload_n 2, 2, 0, []), (19, .ireturn, 0, 0, []), (20, .iinc 2 1, 2, 1, []), (23, .goto (-21), 2, 0, []), (26, .aload_n 0, 0, 0, []), (27, .getfield 9, 4, 0, []), (30, .ireturn, 0, 0, [])], [(2, [true, false, true])], 3, 1)
def zt_48 : zT := ([(0, .iload_n 1, 1, 0, []), (1, .aload_n 0, 0, 0, []), (2, .getfield 9, 4, 0, []), (5, .if_icmp .ge 13, 18, 0, []), (8, .aload_n 0, 0, 0, []), (9, .iload_n 1, 1, 0, []), (10, .iconst 1, 0, 1, []), (11, .iadd, 0, 0, []), (12, .invokevirtual 113, 47, 4, [(2, 1)]), (15, .goto 4, 19, 0, []), (18, .iconst (-1), 0, (-1), []), (19, .ireturn, 0, 0, [])], [], 2, 1)
def zt_49 : zT := ([(0, .iload_n 1, 1, 0, []), (1, .iconst 1, 0, 1, []), (2, .isub, 0, 0, []), (3, .istore_n 2, 2, 0, []), (4, .iload_n 2, 2, 0, []), (5, .ifCond .lt 19, 24, 0, []), (8, .aload_n 0, 0, 0, []), (9, .iload_n 2, 2, 0, []), (10, .invokevirtual 109, 38, 4, [(2, 2)]), (13, .ifCond .eq 5, 18, 0, []), (16, .iload_n 2, 2, 0, []), (17, .ireturn, 0, 0, []), (18, .iinc 2 (-1), 2, (-1), []), (21, .goto (-17), 4, 0, []), (24, .iconst (-1), 0, (-1), []), (25, .ireturn, 0, 0, [])], [(4, [true, false, true])], 3, 1)
def zt_50 : zT := ([(0, .iconst 0, 0, 0, []), (1, .istore 4, 4, 0, []), (3, .iconst 0, 0, 0, []), (4, .istore 5, 5, 0, []), (6, .iload 5, 5, 0, []), (8, .aload_n 0, 0, 0, []), (9, .getfield 9, 4, 0, []), (12, .if_icmp .ge 49, 61, 0, []), (15, .aload_n 1, 1, 0, []), (16, .iload_n 2, 2, 0, []), (17, .iload 5, 5, 0, []), (19, .invokevirtual 116, 60, 5, [(3, 1)]), (22, .invokestatic 119, 135, 0, [(1, 2)]), (25, .ifCond .eq 36, 61, 0, []), (28, .iload 4, 4, 0, []), (30, .aload_n 1, 1, 0, []), (31, .iload_n 2, 2, 0, []), (32, .iload 5, 5, 0, []), (34, .invokevirtual 116, 60, 5, [(3, 1)]), (37, .bipush 9, 0, 9, []), (39, .if_icmp .ne 12, 51, 0, []), (42, .aload_n 3, 3, 0, []), (43, .iload 4, 4, 0, []), (45, .invokevirtual 122, 87, 7, [(2, 1)]), (48, .goto 4, 52, 0, []), (51, .iconst 1, 0, 1, []), (52, .iadd, 0, 0, []), (53, .istore 4, 4, 0, []), (55, .iinc 5 1, 5, 1, []), (58, .goto (-52), 6, 0, []), (61, .iload 4, 4, 0, []), (63, .ireturn, 0, 0, [])], [(6, [true, true, true, true, true, true])], 6, 1)
def zt_51 : zT := ([(0, .bipush 126, 0, 126, []), (2, .istore_n 3, 3, 0, []), (3, .iconst 0, 0, 0, []), (4, .istore 4, 4, 0, []), (6, .iload 4, 4, 0, []), (8, .aload_n 0, 0, 0, []), (9, .getfield 9, 4, 0, []), (12, .if_icmp .gt 99, 111, 0, []), (15, .iload 4, 4, 0, []), (17, .aload_n 0, 0, 0, []), (18, .getfield 9, 4, 0, []), (21, .if_icmp .ge 13, 34, 0, []), (24, .aload_n 1, 1, 0, []), (25, .iload_n 2, 2, 0, []), (26, .iload 4, 4, 0, []), (28, .invokevirtual 116, 60, 5, [(3, 1)]), (31, .goto 5, 36, 0, []), (34, .bipush 126, 0, 126, []), (36, .istore 5, 5, 0, []), (38, .iload 4, 4, 0, []), (40, .ifCond .le 29, 69, 0, []), (43, .iload 5, 5, 0, []), (45, .bipush 126, 0, 126, []), (47, .if_icmp .eq 22, 69, 0, []), (50, .iload 5, 5, 0, []), (52, .invokestatic 125, 134, 0, [(1, 2)]), (55, .ifCond .ne 10, 65, 0, []), (58, .iload_n 3, 3, 0, []), (59, .invokestatic 128, 137, 0, [(1, 2)]), (62, .ifCond .eq 7, 69, 0, []), (65, .iconst 1, 0, 1, []), (66, .goto 4, 70, 0, []), (69, .iconst 0, 0, 0, []), (70, .istore 6, 6, 0, []), (72, .aload_n 0, 0, 0, []), (73, .getfield 37, 4, 8, []), (76, .iload 4, 4, 0, []), (78, .iload 6, 6, 0, []), (80, .ifCond .eq 7, 87, 0, []), (83, .iconst 1, 0, 1, []), (84, .goto 4, 88, 0, []), (87, .iconst 0, 0, 0, []), (88, .invokestatic 77, 73, 0, [(3, 0)]), (91, .iload 5, 5, 0, []), (93, .bipush 126, 0, 126, []), (95, .if_icmp .ne 7, 102, 0, []), (98, .iload_n 3, 3, 0, []), (99, .goto 5, 104, 0, []), (102, .iload 5, 5, 0, []), (104, .istore_n 3, 3, 0, []), (105, .iinc 4 1, 4, 1, []), (108, .goto (-102), 6, 0, []), (111, .return_, 0, 0, [])], [(6, [true, true, true, true, true, false, false]), (36, [true, true, true, true, true, false, false]), (70, [true, true, true, true, true, true, false])], 7, 0)
def zt_52 : zT := ([(0, .iconst 0, 0, 0, []), (1, .istore_n 3, 3, 0, []), (2, .iload_n 3, 3, 0, []), (3, .aload_n 0, 0, 0, []), (4, .getfield 9, 4, 0, []), (7, .if_icmp .gt 80, 87, 0, []), (10, .iload_n 3, 3, 0, []), (11, .ifCond .eq 11, 22, 0, []), (14, .iload_n 3, 3, 0, []), (15, .aload_n 0, 0, 0, []), (16, .getfield 9, 4, 0, []), (19, .if_icmp .ne 7, 26, 0, []), (22, .iconst 1, 0, 1, []), (23, .goto 4, 27, 0, []), (26, .iconst 0, 0, 0, []), (27, .istore 4, 4, 0, []), (29, .aload_n 1, 1, 0, []), (30, .iload_n 2, 2, 0, []), (31, .iload_n 3, 3, 0, []), (32, .invokevirtual 116, 60, 5, [(3, 1)]), (35, .bipush 126, 0, 126, []), (37, .if_icmp .eq 18, 55, 0, []), (40, .aload_n 0, 0, 0, []), (41, .getfield 31, 4, 6, []), (44, .iload_n 3, 3, 0, []), (45, .invokestatic 97, 72, 0, [(2, 1)]), (48, .ifCond .ne 7, 55, 0, []), (51, .iconst 1, 0, 1, []), (52, .goto 4, 56, 0, []), (55, .iconst 0, 0, 0, []), (56, .istore 5, 5, 0, []), (58, .aload_n 0, 0, 0, []), (59, .getfield 34, 4, 7, []), (62, .iload_n 3, 3, 0, []), (63, .iload 4, 4, 0, []), (65, .ifCond .ne 8, 73, 0, []), (68, .iload 5, 5, 0, []), (70, .ifCond .eq 7, 77, 0, []), (73, .iconst 1, 0, 1, []), (74, .goto 4, 78, 0, []), (77, .iconst 0, 0, 0, []), (78, .invokestatic 77, 73, 0, [(3, 0)]), (81, .iinc 3 1, 3, 1, []), (84, .goto (-82), 2, 0, []), (87, .return_, 0, 0, [])], [(2, [true, true, true, true, false, false]), (27, [true, true, true, true, false, false]), (56, [true, true, true, true, true, false])], 6, 0)
def zt_53 : zT := ([(0, .aload_n 0, 0, 0, []), (1, .iload_n 3, 3, 0, []), (2, .invokevirtual 100, 42, 4, [(2, 1)]), (5, .istore 5, 5, 0, []), (7, .aload_n 0, 0, 0, []), (8, .iload_n 3, 3, 0, []), (9, .invokevirtual 131, 43, 4, [(2, 1)]), (12, .istore 6, 6, 0, []), (14, .iload 5, 5, 0, []), (16, .istore 7, 7, 0, []), (18, .iload 7, 7, 0, []), (20, .aload_n 0, 0, 0, []), (21, .getfield 9, 4, 0, []), (24, .if_icmp .ge 181, 205, 0, []), (27, .aload_n 1, 1, 0, []), (28, .iload_n 2, 2, 0, []), (29, .iload 7, 7, 0, []), (31, .invokevirtual 116, 60, 5, [(3, 1)]), (34, .istore 8, 8, 0, []), (36, .aload 4, 4, 0, []), (38, .iload 8, 8, 0, []), (40, .iload 7, 7, 0, []), (42, .iload 6, 6, 0, []), (44, .invokevirtual 134, 88, 7, [(4, 1)]), (47, .istore 9, 9, 0, []), (49, .aload 4, 4, 0, []), (51, .iload 8, 8, 0, []), (53, .iload 6, 6, 0, []), (55, .iload 9, 9, 0, []), (57, .invokevirtual 138, 89, 7, [(4, 2)]), (60, .istore 10, 10, 0, []), (62, .iload 10, 10, 0, []), (64, .ifCond .ne 64, 128, 0, []), (67, .iload 8, 8, 0, []), (69, .invokestatic 119, 135, 0, [(1, 2)]), (72, .ifCond .ne 56, 128, 0, []), (75, .aload 4, 4, 0, []), (77, .getfield 52, 7, 2, []), (80, .iconst 2, 0, 2, []), (81, .if_icmp .ne 14, 95, 0, []), (84, .aload_n 0, 0, 0, []), (85, .iload 5, 5, 0, []), (87, .iload 7, 7, 0, []), (89, .invokevirtual 142, 54, 4, [(3, 1)]), (92, .goto 5, 97, 0, []), (95, .iload 7, 7, 0, []), (97, .istore 11, 11, 0, []), (99, .aload_n 0, 0, 0, []), (100, .getfield 43, 4, 10, []), (103, .iload_n 3, 3, 0, []), (104, .iload 11, 11, 0, []), (106, .iload 7, 7, 0, []), (108, .if_icmp .ge 12, 120, 0, []), (111, .aload_n 0, 0, 0, []), (112, .iload 11, 11, 0, []), (114, .invokevirtual 103, 41, 4, [(2, 1)]), (117, .goto 5, 122, 0, []), (120, .iload 6, 6, 0, []), (122, .invokestatic 77, 73, 0, [(3, 0)]), (125, .iload 11, 11, 0, []), (127, .ireturn, 0, 0, []), (128, .iload 10, 10, 0, []), (130, .ifCond .eq 8, 138, 0, []), (133, .iload 9, 9, 0, []), (135, .goto 4, 139, 0, []), (138, .iconst 0, 0, 0, []), (139, .istore 9, 9, 0, []), (141, .aload_n 0, 0, 0, []), (142, .getfield 21, 4, 3, []), (145, .iload 7, 7, 0, []), (147, .iload_n 3, 3, 0, []), (148, .invokestatic 77, 73, 0, [(3, 0)]), (151, .aload_n 0, 0, 0, []), (152, .getfield 25, 4, 4, []), (155, .iload 7, 7, 0, []), (157, .iload 6, 6, 0, []), (159, .invokestatic 77, 73, 0, [(3, 0)]), (162, .aload_n 0, 0, 0, []), (163, .getfield 28, 4, 5, []), (166, .iload 7, 7, 0, []), (168, .iload 9, 9, 0, []), (170, .invokestatic 77, 73, 0, [(3, 0)]), (173, .aload_n 0, 0, 0, []), (174, .getfield 31, 4, 6, []), (177, .iload 7, 7, 0, []), (179, .iload 10, 10, 0, []), (181, .ifCond .eq 7, 188, 0, []), (184, .iconst 0, 0, 0, []), (185, .goto 4, 189, 0, []), (188, .iconst 1, 0, 1, []), (189, .invokestatic 77, 73, 0, [(3, 0)]), (192, .iload 6, 6, 0, []), (194, .iload 9, 9, 0, []), (196, .iadd, 0, 0, []), (197, .istore 6, 6, 0, []), (199, .iinc 7 1, 7, 1, []), (202, .goto (-184), 18, 0, []), (205, .aload_n 0, 0, 0, []), (206, .getfield 43, 4, 10, []), (209, .iload_n 3, 3, 0, []), (210, .iload 6, 6, 0, []), (212, .invokestatic 77, 73, 0, [(3, 0)]), (215, .aload_n 0, 0, 0, []), (216, .getfield 9, 4, 0, []), (219, .ireturn, 0, 0, [])], [(18, [true, true, true, true, true, true, true, true, false, false, false, false]), (139, [true, true, true, true, true, true, true, true, false, false, true, false])], 12, 1)
def zt_54 : zT := ([(0, .iload_n 2, 2, 0, []), (1, .istore_n 3, 3, 0, []), (2, .iload_n 3, 3, 0, []), (3, .iload_n 1, 1, 0, []), (4, .if_icmp .le 23, 27, 0, []), (7, .aload_n 0, 0, 0, []), (8, .getfield 37, 4, 8, []), (11, .iload_n 3, 3, 0, []), (12, .invokestatic 97, 72, 0, [(2, 1)]), (15, .iconst 1, 0, 1, []), (16, .if_icmp .ne 5, 21, 0, []), (19, .iload_n 3, 3, 0, []), (20, .ireturn, 0, 0, []), (21, .iinc 3 (-1), 3, (-1), []), (24, .goto (-22), 2, 0, []), (27, .iload_n 2, 2, 0, []), (28, .ireturn, 0, 0, [])], [(2, [true, true, true, true])], 4, 1)
def zt_55 : zT := ([(0, .aload_n 0, 0, 0, []), (1, .invokespecial 3, 1000, 5, [(1, 0)]), (4, .aload_n 0, 0, 0, []), (5, .iconst 1, 0, 1, []), (6, .putfield 9, 5, 0, []), (9, .aload_n 0, 0, 0, []), (10, .bipush 12, 0, 12, []), (12, .newarray .int, 12, 0, []), (14, .putfield 15, 5, 1, []), (17, .aload_n 0, 0, 0, []), (18, .sipush 480, 0, 480, []), (21, .newarray .int, 12, 0, []), (23, .putfield 19, 5, 2, []), (26, .return_, 0, 0, [])], [], 1, 0)
def zt_56 : zT := ([(0, .iload_n 1, 1, 0, []), (1, .ifCond .lt 15, 16, 0, []), (4, .iload_n 1, 1, 0, []), (5, .aload_n 0, 0, 0, []), (6, .getfield 9, 5, 0, []), (9, .if_icmp .ge 7, 16, 0, []), (12, .iconst 1, 0, 1, []), (13, .goto 4, 17, 0, []), (16, .iconst 0, 0, 0, []), (17, .ireturn, 0, 0, [])], [], 2, 2)
def zt_57 : zT := ([(0, .aload_n 0, 0, 0, []), (1, .iload_n 1, 1, 0, []), (2, .invokevirtual 22, 56, 5, [(2, 2)]), (5, .ifCond .eq 20, 25, 0, []), (8, .iload_n 2, 2, 0, []), (9, .ifCond .lt 16, 25, 0, []), (12, .iload_n 2, 2, 0, []), (13, .aload_n 0, 0, 0, []), (14, .iload_n 1, 1, 0, []), (15, .invokevirtual 26, 58, 5, [(2, 1)]), (18, .if_icmp .gt 7, 25, 0, []), (21, .iconst 1, 0, 1, []), (22, .goto 4, 26, 0, []), (25, .iconst 0, 0, 0, []), (26, .ireturn, 0, 0, [])], [], 3, 2)
def zt_58 : zT := ([(0, .aload_n 0, 0, 0, []), (1, .getfield 15, 5, 1, []), (4, .iload_n 1, 1, 0, []), (5, .invokestatic 30, 72, 0, [(2, 1)]), (8, .ireturn, 0, 0, [])], [], 2, 1)
def zt_59 : zT := ([(0, .aload_n 0, 0, 0, []), (1, .getfield 15, 5, 1, []), (4, .aload_n 0, 0, 0, []), (5, .getfield 9, 5, 0, []), (8, .invokestatic 36, 75, 0, [(2, 1)]), (11, .ireturn, 0, 0, [])], [], 1, 1)
def zt_60 : zT := ([(0, .aload_n 0, 0, 0, []), (1, .getfield 19, 5, 2, []), (4, .iload_n 1, 1, 0, []), (5, .bipush 40, 0, 40, []), (7, .imul, 0, 0, []), (8, .iload_n 2, 2, 0, []), (9, .iadd, 0, 0, []), (10, .invokestatic 30, 72, 0, [(2, 1)]), (13, .ireturn, 0, 0, [])], [], 3, 1)
def zt_61 : zT := ([(0, .aload_n 0, 0, 0, []), (1, .iconst 1, 0, 1, []), (2, .putfield 9, 5, 0, []), (5, .aload_n 0, 0, 0, []), (6, .getfield 15, 5, 1, []), (9, .iconst 0, 0, 0, []), (10, .iconst 0, 0, 0, []), (11, .invokestatic 39, 73, 0, [(3, 0)]), (14, .return_, 0, 0, [])], [], 1, 0)
def zt_62 : zT := ([(0, .aload_n 0, 0, 0, []), (1, .getfield 15, 5, 1, []), (4, .aload_n 0, 0, 0, []), (5, .getfield 9, 5, 0, []), (8, .iconst 0, 0, 0, []), (9, .invokestatic 39, 73, 0, [(3, 0)]), (12, .aload_n 0, 0, 0, []), (13, .dup, 0, 0, []), (14, .getfield 9, 5, 0, []), (17, .iconst 1, 0, 1, []), (18, .iadd, 0, 0, []), (19, .putfield 9, 5, 0, []), (22, .return_, 0, 0, [])], [], 1, 0)
def zt_63 : zT := ([(0, .aload_n 0, 0, 0, []), (1, .iload_n 1, 1, 0, []), (2, .invokevirtual 26, 58, 5, [(2, 1)]), (5, .istore_n 3, 3, 0, []), (6, .aload_n 0, 0, 0, []), (7, .getfield 19, 5, 2, []), (10, .iload_n 1, 1, 0, []), (11, .bipush 40, 0, 40, []), (13, .imul, 0, 0, []), (14, .iload_n 3, 3, 0, []), (15, .iadd, 0, 0, []), (16, .iload_n 2, 2, 0, []), (17, .invokestatic 39, 73, 0, [(3, 0)]), (20, .aload_n 0, 0, 0, []), (21, .getfield 15, 5, 1, []), (24, .iload_n 1, 1, 0, []), (25, .iload_n 3, 3, 0, []), (26, .iconst 1, 0, 1, []), (27, .iadd, 0, 0, []), (28, .invokestatic 39, 73, 0, [(3, 0)]), (31, .return_, 0, 0, [])], [], 4, 0)
def zt_64 : zT := ([(0, .aload_n 0, 0, 0, []), (1, .iload_n 1, 1, 0, []), (2, .invokevirtual 26, 58, 5, [(2, 1)]), (5, .istore 4, 4, 0, []), (7, .iload 4, 4, 0, []), (9, .istore 5, 5, 0, []), (11, .iload 5, 5, 0, []), (13, .iload_n 2, 2, 0, []), (14, .if_icmp .le 25, 39, 0, []), (17, .aload_n 0, 0, 0, []), (18, .iload_n 1, 1, 0, []), (19, .iload 5, 5, 0, []), (21, .aload_n 0, 0, 0, []), (22, .iload_n 1, 1, 0, []), (23, .iload 5, 5, 0, []), (25, .iconst 1, 0, 1, []), (26, .isub, 0, 0, []), (27, .invokevirtual 43, 60, 5, [(3, 1)]), (30, .invokevirtual 47, 71, 5, [(4, 0)]), (33, .iinc 5 (-1), 5, (-1), []), (36, .goto (-25), 11, 0, []), (39, .aload_n 0, 0, 0, []), (40, .iload_n 1, 1, 0, []), (41, .iload_n 2, 2, 0, []), (42, .iload_n 3, 3, 0, []), (43, .invokevirtual 47, 71, 5, [(4, 0)]), (46, .aload_n 0, 0, 0, []), (47, .getfield 15, 5, 1, []), (50, .iload_n 1, 1, 0, []), (51, .iload 4, 4, 0, []), (53, .iconst 1, 0, 1, []), (54, .iadd, 0, 0, []), (55, .invokestatic 39, 73, 0, [(3, 0)]), (58, .return_, 0, 0, [])], [(11, [true, true, true, true, true, true])], 6, 0)
def zt_65 : zT := ([(0, .aload_n 0, 0, 0, []), (1, .iload_n 1, 1, 0, []), (2, .invokevirtual 26, 58, 5, [(2, 1)]), (5, .istore 4, 4, 0, []), (7, .iload_n 3, 3, 0, []), (8, .iload_n 2, 2, 0, []), (9, .isub, 0, 0, []), (10, .istore 5, 5, 0, []), (12, .iload_n 3, 3, 0, []), (13, .istore 6, 6, 0, []), (15, .iload 6, 6, 0, []), (17, .iload 4, 4, 0, []), (19, .if_icmp .ge 26, 45, 0, []), (22, .aload_n 0, 0, 0, []), (23, .iload_n 1, 1, 0, []), (24, .iload 6, 6, 0, []), (26, .iload 5, 5, 0, []), (28, .isub, 0, 0, []), (29, .aload_n 0, 0, 0, []), (30, .iload_n 1, 1, 0, []), (31, .iload 6, 6, 0, []), (33, .invokevirtual 43, 60, 5, [(3, 1)]), (36, .invokevirtual 47, 71, 5, [(4, 0)]), (39, .iinc 6 1, 6, 1, []), (42, .goto (-27), 15, 0, []), (45, .aload_n 0, 0, 0, []), (46, .getfield 15, 5, 1, []), (49, .iload_n 1, 1, 0, []), (50, .iload 4, 4, 0, []), (52, .iload 5, 5, 0, []), (54, .isub, 0, 0, []), (55, .invokestatic 39, 73, 0, [(3, 0)]), (58, .return_, 0, 0, [])], [(15, [true, true, false, false, true, true, true])], 7, 0)
def zt_66 : zT := ([(0, .aload_n 0, 0, 0, []), (1, .getfield 9, 5, 0, []), (4, .istore_n 3, 3, 0, []), (5, .iload_n 3, 3, 0, []), (6, .iload_n 1, 1, 0, []), (7, .iconst 1, 0, 1, []), (8, .iadd, 0, 0, []), (9, .if_icmp .le 17, 26, 0, []), (12, .aload_n 0, 0, 0, []), (13, .iload_n 3, 3, 0, []), (14, .iconst 1, 0, 1, []), (15, .isub, 0, 0, []), (16, .iload_n 3, 3, 0, []), (17, .invokevirtual 51, 69, 5, [(3, 0)]), (20, .iinc 3 (-1), 3, (-1), []), (23, .goto (-18), 5, 0, []), (26, .aload_n 0, 0, 0, []), (27, .dup, 0, 0, []), (28, .getfield 9, 5, 0, []), (31, .iconst 1, 0, 1, []), (32, .iadd, 0, 0, []), (33, .putfield 9, 5, 0, []), (36, .aload_n 0, 0, 0, []), (37, .getfield 15, 5, 1, []), (40, .iload_n 1, 1, 0, []), (41, .iconst 1, 0, 1, []), (42, .iadd, 0, 0, []), (43, .iconst 0, 0, 0, []), (44, .invokestatic 39, 73, 0, [(3, 0)]), (47, .aload_n 0, 0, 0, []), (48, .iload_n 1, 1, 0, []), (49, .iload_n 2, 2, 0, []), (50, .iload_n 1, 1, 0, []), (51, .iconst 1, 0, 1, []), (52, .iadd, 0, 0, []), (53, .invokevirtual 55, 70, 5, [(4, 0)]), (56, .aload_n 0, 0, 0, []), (57, .getfield 15, 5, 1, []), (60, .iload_n 1, 1, 0, []), (61, .iload_n 2, 2, 0, []), (62, .invokestatic 39, 73, 0, [(3, 0)]), (65, .return_, 0, 0, [])], [(5, [true, true, true, true])], 4, 0)
def zt_67 : zT := ([(0, .aload_n 0, 0, 0, []), (1, .iload_n 1, 1, 0, []), (2, .iconst 1, 0, 1, []), (3, .iadd, 0, 0, []), (4, .iconst 0, 0, 0, []), (5, .iload_n 1, 1, 0, []), (6, .invokevirtual 55, 70, 5, [(4, 0)]), (9, .aload_n 0, 0, 0, []), (10, .dup, 0, 0, []), (11, .getfield 9, 5, 0, []), (14, .iconst 1, 0, 1, []), (15, .isub, 0, 0, []), (16, .putfield 9, 5, 0, []), (19, .iload_n 1, 1, 0, []), (20, .iconst 1, 0, 1, []), (21, .iadd, 0, 0, []), (22, .istore_n 2, 2, 0, []), (23, .iload_n 2, 2, 0, []), (24, .aload_n 0, 0, 0, []), (25, .getfield 9, 5, 0, []), (28, .if_icmp .ge 17, 45, 0, []), (31, .aload_n 0, 0, 0, []), (32, .iload_n 2, 2, 0, []), (33, .iconst 1, 0, 1, []), (34, .iadd, 0, 0, []), (35, .iload_n 2, 2, 0, []), (36, .invokevirtual 51, 69, 5, [(3, 0)]), (39, .iinc 2 1, 2, 1, []), (42, .goto (-19), 23, 0, []), (45, .return_, 0, 0, [])], [(23, [true, false, true])], 3, 0)
def zt_68 : zT := ([(0, .aload_n 0, 0, 0, []), (1, .aload_n 1, 1, 0, []), (2, .getfield 9, 5, 0, []), (5, .putfield 9, 5, 0, []), (8, .aload_n 1, 1, 0, []), (9, .getfield 15, 5, 1, []), (12, .aload_n 0, 0, 0, []), (13, .getfield 15, 5, 1, []), (16, .invokestatic 58, 74, 0, [(2, 0)]), (19, .aload_n 1, 1, 0, []), (20, .getfield 19, 5, 2, []), (23, .aload_n 0, 0, 0, []), (24, .getfield 19, 5, 2, []), (27, .invokestatic 58, 74, 0, [(2, 0)]), (30, .return_, 0, 0, [])], [], 2, 0)
def zt_69 : zT := ([(0, .aload_n 0, 0, 0, []), (1, .getfield 15, 5, 1, []), (4, .iload_n 2, 2, 0, []), (5, .iconst 0, 0, 0, []), (6, .invokestatic 39, 73, 0, [(3, 0)]), (9, .aload_n 0, 0, 0, []), (10, .iload_n 1, 1, 0, []), (11, .iconst 0, 0, 0, []), (12, .iload_n 2, 2, 0, []), (13, .invokevirtual 55, 70, 5, [(4, 0)]), (16, .return_, 0, 0, [])], [], 3, 0)
def zt_70 : zT := ([(0, .aload_n 0, 0, 0, []), (1, .iload_n 1, 1, 0, []), (2, .invokevirtual 26, 58, 5, [(2, 1)]), (5, .istore 4, 4, 0, []), (7, .iload_n 2, 2, 0, []), (8, .istore 5, 5, 0, []), (10, .iload 5, 5, 0, []), (12, .iload 4, 4, 0, []), (14, .if_icmp .ge 21, 35, 0, []), (17, .aload_n 0, 0, 0, []), (18, .iload_n 3, 3, 0, []), (19, .aload_n 0, 0, 0, []), (20, .iload_n 1, 1, 0, []), (21, .iload 5, 5, 0, []), (23, .invokevirtual 43, 60, 5, [(3, 1)]), (26, .invokevirtual 62, 63, 5, [(3, 0)]), (29, .iinc 5 1, 5, 1, []), (32, .goto (-22), 10, 0, []), (35, .return_, 0, 0, [])], [(10, [true, true, false, true, true, true])], 6, 0)
def zt_71 : zT := ([(0, .aload_n 0, 0, 0, []), (1, .getfield 19, 5, 2, []), (4, .iload_n 1, 1, 0, []), (5, .bipush 40, 0, 40, []), (7, .imul, 0, 0, []), (8, .iload_n 2, 2, 0, []), (9, .iadd, 0, 0, []), (10, .iload_n 3, 3, 0, []), (11, .invokestatic 39, 73, 0, [(3, 0)]), (14, .return_, 0, 0, [])], [], 4, 0)
def zt_72 : zT := ([(0, .aload_n 0, 0, 0, []), (1, .ifnull 19, 20, 0, []), (4, .iload_n 1, 1, 0, []), (5, .ifCond .lt 15, 20, 0, []), (8, .iload_n 1, 1, 0, []), (9, .aload_n 0, 0, 0, []), (10, .arraylength, 12, 0, []), (11, .if_icmp .ge 9, 20, 0, []), (14, .aload_n 0, 0, 0, []), (15, .iload_n 1, 1, 0, []), (16, .iaload, 12, 0, []), (17, .goto 4, 21, 0, []), (20, .iconst 0, 0, 0, []), (21, .ireturn, 0, 0, [])], [], 2, 1)
def zt_73 : zT := ([(0, .aload_n 0, 0, 0, []), (1, .ifnull 17, 18, 0, []), (4, .iload_n 1, 1, 0, []), (5, .ifCond .lt 13, 18, 0, []), (8, .iload_n 1, 1, 0, []), (9, .aload_n 0, 0, 0, []), (10, .arraylength, 12, 0, []), (11, .if_icmp .ge 7, 18, 0, []), (14, .aload_n 0, 0, 0, []), (15, .iload_n 1, 1, 0, []), (16, .iload_n 2, 2, 0, []), (17, .iastore, 12, 0, []), (18, .return_, 0, 0, [])], [], 3, 0)
def zt_74 : zT := ([(0, .aload_n 0, 0, 0, []), (1, .ifnull 21, 22, 0, []), (4, .aload_n 1, 1, 0, []), (5, .ifnull 17, 22, 0, []), (8, .aload_n 0, 0, 0, []), (9, .iconst 0, 0, 0, []), (10, .aload_n 1, 1, 0, []), (11, .iconst 0, 0, 0, []), (12, .aload_n 0, 0, 0, []), (13, .arraylength, 12, 0, []), (14, .aload_n 1, 1, 0, []), (15, .arraylength, 12, 0, []), (16, .invokestatic 7, 1002, 0, [(2, 1)]), (19, .invokestatic 13, 1005, 0, [(5, 0)]), (22, .return_, 0, 0, [])], [], 2, 0)
def zt_75 : zT := ([(0, .iconst 0, 0, 0, []), (1, .istore_n 2, 2, 0, []), (2, .iconst 0, 0, 0, []), (3, .istore_n 3, 3, 0, []), (4, .iload_n 3, 3, 0, []), (5, .iload_n 1, 1, 0, []), (6, .if_icmp .ge 17, 23, 0, []), (9, .iload_n 2, 2, 0, []), (10, .aload_n 0, 0, 0, []), (11, .iload_n 3, 3, 0, []), (12, .invokestatic 19, 72, 0, [(2, 1)]), (15, .iadd, 0, 0, []), (16, .istore_n 2, 2, 0, []), (17, .iinc 3 1, 3, 1, []), (20, .goto (-16), 4, 0, []), (23, .iload_n 2, 2, 0, []), (24, .ireturn, 0, 0, [])], [(4, [true, true, true, true])], 4, 1)
def zt_76 : zT := ([(0, .aload_n 0, 0, 0, []), (1, .invokespecial 3, 1000, 6, [(1, 0)]), (4, .aload_n 0, 0, 0, []), (5, .bipush 12, 0, 12, []), (7, .anewarray 9, 16, 0, []), (10, .putfield 11, 6, 0, []), (13, .aload_n 0, 0, 0, []), (14, .new 9, 4, 11, []), (17, .dup, 0, 0, []), (18, .invokespecial 17, 33, 4, [(1, 0)]), (21, .putfield 18, 6, 1, []), (24, .iconst 0, 0, 0, []), (25, .istore_n 1, 1, 0, []), (26, .iload_n 1, 1, 0, []), (27, .aload_n 0, 0, 0, []), (28, .getfield 11, 6, 0, []), (31, .arraylength, 16, 0, []), (32, .if_icmp .ge 22, 54, 0, []), (35, .aload_n 0, 0, 0, []), (36, .getfield 11, 6, 0, []), (39, .iload_n 1, 1, 0, []), (40, .new 9, 4, 11, []), (43, .dup, 0, 0, []), (44, .invokespecial 17, 33, 4, [(1, 0)]), (47, .aastore, 16, 4, []), (48, .iinc 1 1, 1, 1, []), (51, .goto (-25), 26, 0, []), (54, .return_, 0, 0, [])], [(26, [true, true])], 2, 0)
def zt_77 : zT := ([(0, .iload_n 1, 1, 0, []), (1, .ifCond .lt 21, 22, 0, []), (4, .iload_n 1, 1, 0, []), (5, .aload_n 0, 0, 0, []), (6, .getfield 11, 6, 0, []), (9, .arraylength, 16, 0, []), (10, .if_icmp .ge 12, 22, 0, []), (13, .aload_n 0, 0, 0, []), (14, .getfield 11, 6, 0, []), (17, .iload_n 1, 1, 0, []), (18, .aaload, 16, 0, []), (19, .goto 4, 23, 0, []), (22, .aconst_null, 0, 0, []), (23, .astore_n 2, 2, 0, []), (24, .aload_n 2, 2, 0, []), (25, .ifnull 7, 32, 0, []), (28, .aload_n 2, 2, 0, []), (29, .goto 7, 36, 0, []), (32, .aload_n 0, 0, 0, []), (33, .getfield 18, 6, 1, []), (36, .areturn, 0, 0, [])], [(23, [true, false, false])], 3, 3)
def zt_78 : zT := ([(0, .iconst 0, 0, 0, []), (1, .istore_n 3, 3, 0, []), (2, .iload_n 3, 3, 0, []), (3, .aload_n 1, 1, 0, []), (4, .getfield 22, 5, 0, []), (7, .if_icmp .ge 20, 27, 0, []), (10, .aload_n 0, 0, 0, []), (11, .iload_n 3, 3, 0, []), (12, .invokevirtual 28, 77, 6, [(2, 3)]), (15, .aload_n 1, 1, 0, []), (16, .iload_n 3, 3, 0, []), (17, .aload_n 2, 2, 0, []), (18, .invokevirtual 32, 34, 4, [(4, 0)]), (21, .iinc 3 1, 3, 1, []), (24, .goto (-22), 2, 0, []), (27, .return_, 0, 0, [])], [(2, [true, true, true, true])], 4, 0)
def zt_79 : zT := ([(0, .aload_n 0, 0, 0, []), (1, .aload_n 1, 1, 0, []), (2, .aload_n 1, 1, 0, []), (3, .getfield 36, 1, 0, []), (6, .getfield 22, 5, 0, []), (9, .invokevirtual 42, 80, 6, [(3, 1)]), (12, .ireturn, 0, 0, [])], [], 2, 1)
def zt_80 : zT := ([(0, .iconst 0, 0, 0, []), (1, .istore_n 3, 3, 0, []), (2, .iconst 0, 0, 0, []), (3, .istore 4, 4, 0, []), (5, .iload 4, 4, 0, []), (7, .iload_n 2, 2, 0, []), (8, .if_icmp .ge 33, 41, 0, []), (11, .aload_n 1, 1, 0, []), (12, .getfield 46, 1, 1, []), (15, .iload 4, 4, 0, []), (17, .invokevirtual 50, 8, 0, [(2, 2)]), (20, .ifCond .ne 15, 35, 0, []), (23, .iload_n 3, 3, 0, []), (24, .aload_n 0, 0, 0, []), (25, .iload 4, 4, 0, []), (27, .invokevirtual 28, 77, 6, [(2, 3)]), (30, .getfield 56, 4, 1, []), (33, .iadd, 0, 0, []), (34, .istore_n 3, 3, 0, []), (35, .iinc 4 1, 4, 1, []), (38, .goto (-33), 5, 0, []), (41, .iload_n 3, 3, 0, []), (42, .ireturn, 0, 0, [])], [(5, [true, true, true, true, true])], 5, 1)
def zt_81 : zT := ([(0, .aload_n 0, 0, 0, []), (1, .aload_n 1, 1, 0, []), (2, .iload_n 2, 2, 0, []), (3, .invokevirtual 42, 80, 6, [(3, 1)]), (6, .aload_n 0, 0, 0, []), (7, .iload_n 2, 2, 0, []), (8, .invokevirtual 28, 77, 6, [(2, 3)]), (11, .iload_n 3, 3, 0, []), (12, .invokevirtual 59, 40, 4, [(2, 1)]), (15, .iadd, 0, 0, []), (16, .ireturn, 0, 0, [])], [], 4, 1)
def zt_82 : zT := ([(0, .iload_n 2, 2, 0, []), (1, .ifCond .ge 5, 6, 0, []), (4, .iconst (-1), 0, (-1), []), (5, .ireturn, 0, 0, []), (6, .iload_n 2, 2, 0, []), (7, .istore_n 3, 3, 0, []), (8, .iconst 0, 0, 0, []), (9, .istore 4, 4, 0, []), (11, .iload 4, 4, 0, []), (13, .aload_n 1, 1, 0, []), (14, .getfield 36, 1, 0, []), (17, .getfield 22, 5, 0, []), (20, .if_icmp .ge 50, 70, 0, []), (23, .aload_n 1, 1, 0, []), (24, .getfield 46, 1, 1, []), (27, .iload 4, 4, 0, []), (29, .invokevirtual 50, 8, 0, [(2, 2)]), (32, .ifCond .eq 7, 39, 0, []), (35, .iconst 0, 0, 0, []), (36, .goto 12, 48, 0, []), (39, .aload_n 0, 0, 0, []), (40, .iload 4, 4, 0, []), (42, .invokevirtual 28, 77, 6, [(2, 3)]), (45, .getfield 56, 4, 1, []), (48, .istore 5, 5, 0, []), (50, .iload_n 3, 3, 0, []), (51, .iload 5, 5, 0, []), (53, .if_icmp .ge 6, 59, 0, []), (56, .iload 4, 4, 0, []), (58, .ireturn, 0, 0, []), (59, .iload_n 3, 3, 0, []), (60, .iload 5, 5, 0, []), (62, .isub, 0, 0, []), (63, .istore_n 3, 3, 0, []), (64, .iinc 4 1, 4, 1, []), (67, .goto (-56), 11, 0, []), (70, .iconst (-1), 0, (-1), []), (71, .ireturn, 0, 0, [])], [(11, [true, true, false, true, true, false])], 6, 1)
def zt_83 : zT := ([(0, .aload_n 0, 0, 0, []), (1, .invokespecial 3, 1000, 7, [(1, 0)]), (4, .aload_n 0, 0, 0, []), (5, .bipush 20, 0, 20, []), (7, .putfield 9, 7, 0, []), (10, .aload_n 0, 0, 0, []), (11, .iconst 4, 0, 4, []), (12, .putfield 15, 7, 1, []), (15, .aload_n 0, 0, 0, []), (16, .iconst 2, 0, 2, []), (17, .putfield 18, 7, 2, []), (20, .aload_n 0, 0, 0, []), (21, .iconst 2, 0, 2, []), (22, .putfield 21, 7, 3, []), (25, .return_, 0, 0, [])], [], 1, 0)
def zt_84 : zT := ([(0, .iload_n 0, 0, 0, []), (1, .tableswitch 96 0 3 #[31, 48, 65, 80], 97, 31, [(0, 32), (1, 49), (2, 66), (3, 81)]), (32, .iload_n 1, 1, 0, []), (33, .iconst 4, 0, 4, []), (34, .if_icmp .lt 13, 47, 0, []), (37, .iload_n 1, 1, 0, []), (38, .bipush 40, 0, 40, []), (40, .if_icmp .gt 7, 47, 0, []), (43, .iconst 1, 0, 1, []), (44, .goto 4, 48, 0, []), (47, .iconst 0, 0, 0, []), (48, .ireturn, 0, 0, []), (49, .iload_n 1, 1, 0, []), (50, .iconst 1, 0, 1, []), (51, .if_icmp .lt 13, 64, 0, []), (54, .iload_n 1, 1, 0, []), (55, .bipush 8, 0, 8, []), (57, .if_icmp .gt 7, 64, 0, []), (60, .iconst 1, 0, 1, []), (61, .goto 4, 65, 0, []), (64, .iconst 0, 0, 0, []), (65, .ireturn, 0, 0, []), (66, .iload_n 1, 1, 0, []), (67, .ifCond .lt 12, 79, 0, []), (70, .iload_n 1, 1, 0, []), (71, .iconst 2, 0, 2, []), (72, .if_icmp .gt 7, 79, 0, []), (75, .iconst 1, 0, 1, []), (76, .goto 4, 80, 0, []), (79, .iconst 0, 0, 0, []), (80, .ireturn, 0, 0, []), (81, .iload_n 1, 1, 0, []), (82, .ifCond .lt 13, 95, 0, []), (85, .iload_n 1, 1, 0, []), (86, .bipush 7, 0, 7, []), (88, .if_icmp .gt 7, 95, 0, []), (91, .iconst 1, 0, 1, []), (92, .goto 4, 96, 0, []), (95, .iconst 0, 0, 0, []), (96, .ireturn, 0, 0, []), (97, .iconst 0, 0, 0, []), (98, .ireturn, 0, 0, [])], [], 2, 2)
def zt_85 : zT := ([(0, .iconst 0, 0, 0, []), (1, .istore_n 3, 3, 0, []), (2, .iload_n 1, 1, 0, []), (3, .tableswitch 81 0 3 #[29, 42, 55, 68], 84, 29, [(0, 32), (1, 45), (2, 58), (3, 71)]), (32, .aload_n 0, 0, 0, []), (33, .getfield 9, 7, 0, []), (36, .istore_n 3, 3, 0, []), (37, .aload_n 0, 0, 0, []), (38, .iload_n 2, 2, 0, []), (39, .putfield 9, 7, 0, []), (42, .goto 42, 84, 0, []), (45, .aload_n 0, 0, 0, []), (46, .getfield 15, 7, 1, []), (49, .istore_n 3, 3, 0, []), (50, .aload_n 0, 0, 0, []), (51, .iload_n 2, 2, 0, []), (52, .putfield 15, 7, 1, []), (55, .goto 29, 84, 0, []), (58, .aload_n 0, 0, 0, []), (59, .getfield 18, 7, 2, []), (62, .istore_n 3, 3, 0, []), (63, .aload_n 0, 0, 0, []), (64, .iload_n 2, 2, 0, []), (65, .putfield 18, 7, 2, []), (68, .goto 16, 84, 0, []), (71, .aload_n 0, 0, 0, []), (72, .getfield 21, 7, 3, []), (75, .istore_n 3, 3, 0, []), (76, .aload_n 0, 0, 0, []), (77, .iload_n 2, 2, 0, []), (78, .putfield 21, 7, 3, []), (81, .goto 3, 84, 0, []), (84, .iload_n 3, 3, 0, []), (85, .ireturn, 0, 0, [])], [], 4, 1)
def zt_86 : zT := ([(0, .aload_n 0, 0, 0, []), (1, .aload_n 1, 1, 0, []), (2, .getfield 9, 7, 0, []), (5, .putfield 9, 7, 0, []), (8, .aload_n 0, 0, 0, []), (9, .aload_n 1, 1, 0, []), (10, .getfield 15, 7, 1, []), (13, .putfield 15, 7, 1, []), (16, .aload_n 0, 0, 0, []), (17, .aload_n 1, 1, 0, []), (18, .getfield 18, 7, 2, []), (21, .putfield 18, 7, 2, []), (24, .aload_n 0, 0, 0, []), (25, .aload_n 1, 1, 0, []), (26, .getfield 21, 7, 3, []), (29, .putfield 21, 7, 3, []), (32, .return_, 0, 0, [])], [], 2, 0)
def zt_87 : zT := ([(0, .aload_n 0, 0, 0, []), (1, .getfield 15, 7, 1, []), (4, .ifCond .le 17, 21, 0, []), (7, .aload_n 0, 0, 0, []), (8, .getfield 15, 7, 1, []), (11, .iload_n 1, 1, 0, []), (12, .aload_n 0, 0, 0, []), (13, .getfield 15, 7, 1, []), (16, .irem, 0, 0, []), (17, .isub, 0, 0, []), (18, .goto 4, 22, 0, []), (21, .iconst 1, 0, 1, []), (22, .ireturn, 0, 0, [])], [], 2, 1)
def zt_88 : zT := ([(0, .iload_n 1, 1, 0, []), (1, .invokestatic 24, 134, 0, [(1, 2)]), (4, .ifCond .eq 5, 9, 0, []), (7, .iconst 2, 0, 2, []), (8, .ireturn, 0, 0, []), (9, .iload_n 1, 1, 0, []), (10, .bipush 126, 0, 126, []), (12, .if_icmp .ne 13, 25, 0, []), (15, .iload_n 2, 2, 0, []), (16, .ifCond .ne 7, 23, 0, []), (19, .iconst 1, 0, 1, []), (20, .goto 4, 24, 0, []), (23, .iconst 0, 0, 0, []), (24, .ireturn, 0, 0, []), (25, .iload_n 1, 1, 0, []), (26, .bipush 9, 0, 9, []), (28, .if_icmp .eq 5, 33, 0, []), (31, .iconst 1, 0, 1, []), (32, .ireturn, 0, 0, []), (33, .aload_n 0, 0, 0, []), (34, .iload_n 3, 3, 0, []), (35, .invokevirtual 28, 87, 7, [(2, 1)]), (38, .istore 4, 4, 0, []), (40, .aload_n 0, 0, 0, []), (41, .getfield 18, 7, 2, []), (44, .ifCond .ne 8, 52, 0, []), (47, .iload 4, 4, 0, []), (49, .goto 18, 67, 0, []), (52, .iload 4, 4, 0, []), (54, .iconst 0, 0, 0, []), (55, .aload_n 0, 0, 0, []), (56, .getfield 9, 7, 0, []), (59, .iload_n 3, 3, 0, []), (60, .isub, 0, 0, []), (61, .invokestatic 32, 1001, 0, [(2, 1)]), (64, .invokestatic 38, 1002, 0, [(2, 1)]), (67, .ireturn, 0, 0, [])], [], 5, 1)
def zt_89 : zT := ([(0, .aload_n 0, 0, 0, []), (1, .getfield 18, 7, 2, []), (4, .ifCond .ne 5, 9, 0, []), (7, .iconst 1, 0, 1, []), (8, .ireturn, 0, 0, []), (9, .iload_n 1, 1, 0, []), (10, .bipush 9, 0, 9, []), (12, .if_icmp .ne 19, 31, 0, []), (15, .iload_n 2, 2, 0, []), (16, .aload_n 0, 0, 0, []), (17, .getfield 9, 7, 0, []), (20, .if_icmp .ge 7, 27, 0, []), (23, .iconst 1, 0, 1, []), (24, .goto 22, 46, 0, []), (27, .iconst 0, 0, 0, []), (28, .goto 18, 46, 0, []), (31, .iload_n 2, 2, 0, []), (32, .iload_n 3, 3, 0, []), (33, .iadd, 0, 0, []), (34, .aload_n 0, 0, 0, []), (35, .getfield 9, 7, 0, []), (38, .if_icmp .gt 7, 45, 0, []), (41, .iconst 1, 0, 1, []), (42, .goto 4, 46, 0, []), (45, .iconst 0, 0, 0, []), (46, .ireturn, 0, 0, [])], [], 4, 2)
def zt_90 : zT := ([(0, .aload_n 0, 0, 0, []), (1, .invokespecial 3, 1000, 8, [(1, 0)]), (4, .aload_n 0, 0, 0, []), (5, .iconst 0, 0, 0, []), (6, .putfield 9, 8, 0, []), (9, .aload_n 0, 0, 0, []), (10, .iconst 0, 0, 0, []), (11, .putfield 15, 8, 1, []), (14, .aload_n 0, 0, 0, []), (15, .iconst 0, 0, 0, []), (16, .putfield 19, 8, 2, []), (19, .aload_n 0, 0, 0, []), (20, .bipush 20, 0, 20, []), (22, .newarray .int, 12, 0, []), (24, .putfield 22, 8, 3, []), (27, .return_, 0, 0, [])], [], 1, 0)
def zt_91 : zT := ([(0, .aload_n 0, 0, 0, []), (1, .invokespecial 3, 1000, 9, [(1, 0)]), (4, .aload_n 0, 0, 0, []), (5, .sipush 400, 0, 400, []), (8, .newarray .int, 12, 0, []), (10, .putfield 9, 9, 0, []), (13, .aload_n 0, 0, 0, []), (14, .bipush 8, 0, 8, []), (16, .newarray .int, 12, 0, []), (18, .putfield 15, 9, 1, []), (21, .aload_n 0, 0, 0, []), (22, .iconst 0, 0, 0, []), (23, .putfield 18, 9, 2, []), (26, .aload_n 0, 0, 0, []), (27, .iconst 0, 0, 0, []), (28, .putfield 22, 9, 3, []), (31, .aload_n 0, 0, 0, []), (32, .iconst 0, 0, 0, []), (33, .putfield 25, 9, 4, []), (36, .aload_n 0, 0, 0, []), (37, .iconst 0, 0, 0, []), (38, .putfield 28, 9, 5, []), (41, .return_, 0, 0, [])], [], 1, 0)
def zt_92 : zT := ([(0, .aload_n 0, 0, 0, []), (1, .getfield 18, 9, 2, []), (4, .sipush 400, 0, 400, []), (7, .if_icmp .lt 5, 12, 0, []), (10, .iconst 0, 0, 0, []), (11, .ireturn, 0, 0, []), (12, .aload_n 0, 0, 0, []), (13, .getfield 9, 9, 0, []), (16, .aload_n 0, 0, 0, []), (17, .getfield 18, 9, 2, []), (20, .iload_n 1, 1, 0, []), (21, .invokestatic 31, 73, 0, [(3, 0)]), (24, .aload_n 0, 0, 0, []), (25, .dup, 0, 0, []), (26, .getfield 18, 9, 2, []), (29, .iconst 1, 0, 1, []), (30, .iadd, 0, 0, []), (31, .putfield 18, 9, 2, []), (34, .iconst 1, 0, 1, []), (35, .ireturn, 0, 0, [])], [], 2, 2)
def zt_93 : zT := ([(0, .aload_n 1, 1, 0, []), (1, .invokevirtual 37, 20, 1, [(1, 0)]), (4, .aload_n 0, 0, 0, []), (5, .iconst 0, 0, 0, []), (6, .putfield 25, 9, 4, []), (9, .aload_n 0, 0, 0, []), (10, .iconst 0, 0, 0, []), (11, .putfield 28, 9, 5, []), (14, .iconst 0, 0, 0, []), (15, .istore_n 2, 2, 0, []), (16, .iload_n 2, 2, 0, []), (17, .aload_n 0, 0, 0, []), (18, .getfield 18, 9, 2, []), (21, .if_icmp .ge 34, 55, 0, []), (24, .aload_n 0, 0, 0, []), (25, .aload_n 0, 0, 0, []), (26, .getfield 9, 9, 0, []), (29, .iload_n 2, 2, 0, []), (30, .invokestatic 42, 72, 0, [(2, 1)]), (33, .aload_n 1, 1, 0, []), (34, .invokevirtual 46, 94, 9, [(3, 1)]), (37, .istore_n 3, 3, 0, []), (38, .iload_n 3, 3, 0, []), (39, .ifCond .eq 10, 49, 0, []), (42, .aload_n 0, 0, 0, []), (43, .iload_n 2, 2, 0, []), (44, .putfield 22, 9, 3, []), (47, .iload_n 3, 3, 0, []), (48, .ireturn, 0, 0, []), (49, .iinc 2 1, 2, 1, []), (52, .goto (-36), 16, 0, []), (55, .aload_n 0, 0, 0, []), (56, .aload_n 0, 0, 0, []), (57, .getfield 18, 9, 2, []), (60, .putfield 22, 9, 3, []), (63, .aload_n 0, 0, 0, []), (64, .getfield 25, 9, 4, []), (67, .ifCond .le 8, 75, 0, []), (70, .bipush 6, 0, 6, []), (72, .goto 4, 76, 0, []), (75, .iconst 0, 0, 0, []), (76, .ireturn, 0, 0, [])], [(16, [true, true, true, false])], 4, 1)
def zt_94 : zT := ([(0, .aload_n 2, 2, 0, []), (1, .getfield 50, 1, 0, []), (4, .astore_n 3, 3, 0, []), (5, .iload_n 1, 1, 0, []), (6, .bipush 10, 0, 10, []), (8, .if_icmp .ne 9, 17, 0, []), (11, .aload_n 0, 0, 0, []), (12, .aload_n 3, 3, 0, []), (13, .invokevirtual 54, 95, 9, [(2, 1)]), (16, .ireturn, 0, 0, []), (17, .iload_n 1, 1, 0, []), (18, .bipush 91, 0, 91, []), (20, .if_icmp .ne 14, 34, 0, []), (23, .aload_n 0, 0, 0, []), (24, .aload_n 3, 3, 0, []), (25, .getfield 58, 5, 0, []), (28, .iconst 1, 0, 1, []), (29, .isub, 0, 0, []), (30, .invokevirtual 63, 96, 9, [(2, 1)]), (33, .ireturn, 0, 0, []), (34, .iload_n 1, 1, 0, []), (35, .bipush 93, 0, 93, []), (37, .if_icmp .ne 18, 55, 0, []), (40, .aload_n 0, 0, 0, []), (41, .aload_n 2, 2, 0, []), (42, .getfield 67, 1, 1, []), (45, .aload_n 3, 3, 0, []), (46, .getfield 58, 5, 0, []), (49, .iconst 1, 0, 1, []), (50, .isub, 0, 0, []), (51, .invokevirtual 71, 97, 9, [(3, 1)]), (54, .ireturn, 0, 0, []), (55, .iload_n 1, 1, 0, []), (56, .invokestatic 75, 136, 0, [(1, 2)]), (59, .ifCond .ne 5, 64, 0, []), (62, .iconst 1, 0, 1, []), (63, .ireturn, 0, 0, []), (64, .aload_n 3, 3, 0, []), (65, .aload_n 3, 3, 0, []), (66, .getfield 58, 5, 0, []), (69, .iconst 1, 0, 1, []), (70, .isub, 0, 0, []), (71, .invokevirtual 79, 58, 5, [(2, 1)]), (74, .bipush 40, 0, 40, []), (76, .if_icmp .lt 5, 81, 0, []), (79, .iconst 2, 0, 2, []), (80, .ireturn, 0, 0, []), (81, .aload_n 3, 3, 0, []), (82, .aload_n 3, 3, 0, []), (83, .getfield 58, 5, 0, []), (86, .iconst 1, 0, 1, []), (87, .isub, 0, 0, []), (88, .iload_n 1, 1, 0, []), (89, .invokevirtual 82, 63, 5, [(3, 0)]), (92, .iconst 0, 0, 0, []), (93, .ireturn, 0, 0, [])], [], 4, 1)
def zt_95 : zT := ([(0, .aload_n 1, 1, 0, []), (1, .getfield 58, 5, 0, []), (4, .bipush 12, 0, 12, []), (6, .if_icmp .lt 5, 11, 0, []), (9, .iconst 3, 0, 3, []), (10, .ireturn, 0, 0, []), (11, .aload_n 1, 1, 0, []), (12, .invokevirtual 86, 62, 5, [(1, 0)]), (15, .iconst 0, 0, 0, []), (16, .ireturn, 0, 0, [])], [], 2, 1)
def zt_96 : zT := ([(0, .aload_n 0, 0, 0, []), (1, .getfield 28, 9, 5, []), (4, .bipush 8, 0, 8, []), (6, .if_icmp .lt 5, 11, 0, []), (9, .iconst 4, 0, 4, []), (10, .ireturn, 0, 0, []), (11, .aload_n 0, 0, 0, []), (12, .getfield 15, 9, 1, []), (15, .aload_n 0, 0, 0, []), (16, .getfield 25, 9, 4, []), (19, .iload_n 1, 1, 0, []), (20, .invokestatic 31, 73, 0, [(3, 0)]), (23, .aload_n 0, 0, 0, []), (24, .dup, 0, 0, []), (25, .getfield 25, 9, 4, []), (28, .iconst 1, 0, 1, []), (29, .iadd, 0, 0, []), (30, .putfield 25, 9, 4, []), (33, .aload_n 0, 0, 0, []), (34, .dup, 0, 0, []), (35, .getfield 28, 9, 5, []), (38, .iconst 1, 0, 1, []), (39, .iadd, 0, 0, []), (40, .putfield 28, 9, 5, []), (43, .iconst 0, 0, 0, []), (44, .ireturn, 0, 0, [])], [], 2, 1)
def zt_97 : zT := ([(0, .aload_n 0, 0, 0, []), (1, .getfield 25, 9, 4, []), (4, .ifCond .ne 5, 9, 0, []), (7, .iconst 5, 0, 5, []), (8, .ireturn, 0, 0, []), (9, .aload_n 0, 0, 0, []), (10, .getfield 15, 9, 1, []), (13, .aload_n 0, 0, 0, []), (14, .getfield 25, 9, 4, []), (17, .iconst 1, 0, 1, []), (18, .isub, 0, 0, []), (19, .invokestatic 42, 72, 0, [(2, 1)]), (22, .istore_n 3, 3, 0, []), (23, .iload_n 3, 3, 0, []), (24, .iload_n 2, 2, 0, []), (25, .if_icmp .ge 12, 37, 0, []), (28, .aload_n 1, 1, 0, []), (29, .iload_n 3, 3, 0, []), (30, .iload_n 2, 2, 0, []), (31, .invokevirtual 89, 10, 0, [(3, 2)]), (34, .ifCond .eq 5, 39, 0, []), (37, .iconst 5, 0, 5, []), (38, .ireturn, 0, 0, []), (39, .aload_n 0, 0, 0, []), (40, .dup, 0, 0, []), (41, .getfield 25, 9, 4, []), (44, .iconst 1, 0, 1, []), (45, .isub, 0, 0, []), (46, .putfield 25, 9, 4, []), (49, .aload_n 1, 1, 0, []), (50, .iload_n 3, 3, 0, []), (51, .iload_n 2, 2, 0, []), (52, .invokevirtual 95, 11, 0, [(3, 1)]), (55, .pop, 0, 0, []), (56, .iconst 0, 0, 0, []), (57, .ireturn, 0, 0, [])], [], 4, 1)
def zt_98 : zT := ([(0, .aload_n 0, 0, 0, []), (1, .invokespecial 1, 1000, 10, [(1, 0)]), (4, .aload_n 0, 0, 0, []), (5, .new 7, 9, 6, []), (8, .dup, 0, 0, []), (9, .invokespecial 9, 91, 9, [(1, 0)]), (12, .putfield 10, 10, 0, []), (15, .aload_n 0, 0, 0, []), (16, .new 16, 7, 4, []), (19, .dup, 0, 0, []), (20, .invokespecial 18, 83, 7, [(1, 0)]), (23, .putfield 19, 10, 1, []), (26, .aload_n 0, 0, 0, []), (27, .new 23, 2, 3, []), (30, .dup, 0, 0, []), (31, .invokespecial 25, 25, 2, [(1, 0)]), (34, .putfield 26, 10, 2, []), (37, .aload_n 0, 0, 0, []), (38, .new 30, 6, 2, []), (41, .dup, 0, 0, []), (42, .invokespecial 32, 76, 6, [(1, 0)]), (45, .putfield 33, 10, 3, []), (48, .aload_n 0, 0, 0, []), (49, .iconst 2, 0, 2, []), (50, .anewarray 37, 15, 0, []), (53, .putfield 39, 10, 4, []), (56, .aload_n 0, 0, 0, []), (57, .iconst 4, 0, 4, []), (58, .anewarray 43, 17, 0, []), (61, .putfield 45, 10, 5, []), (64, .aload_n 0, 0, 0, []), (65, .new 49, 1, 4, []), (68, .dup, 0, 0, []), (69, .invokespecial 51, 19, 1, [(1, 0)]), (72, .putfield 52, 10, 6, []), (75, .aload_n 0, 0, 0, []), (76, .new 49, 1, 4, []), (79, .dup, 0, 0, []), (80, .invokespecial 51, 19, 1, [(1, 0)]), (83, .putfield 56, 10, 7, []), (86, .aload_n 0, 0, 0, []), (87, .iconst 0, 0, 0, []), (88, .putfield 59, 10, 8, []), (91, .aload_n 0, 0, 0, []), (92, .iconst 0, 0, 0, []), (93, .putfield 63, 10, 9, []), (96, .iconst 0, 0, 0, []), (97, .istore_n 1, 1, 0, []), (98, .iload_n 1, 1, 0, []), (99, .aload_n 0, 0, 0, []), (100, .getfield 39, 10, 4, []), (103, .arraylength, 15, 0, []), (104, .if_icmp .ge 22, 126, 0, []), (107, .aload_n 0, 0, 0, []), (108, .getfield 39, 10, 4, []), (111, .iload_n 1, 1, 0, []), (112, .new 37, 3, 3, []), (115, .dup, 0, 0, []), (116, .invokespecial 66, 32, 3, [(1, 0)]), (119, .aastore, 15, 3, []), (120, .iinc 1 1, 1, 1, []), (123, .goto (-25), 98, 0, []), (126, .iconst 0, 0, 0, []), (127, .istore_n 1, 1, 0, []), (128, .iload_n 1, 1, 0, []), (129, .aload_n 0, 0, 0, []), (130, .getfield 45, 10, 5, []), (133, .arraylength, 17, 0, []), (134, .if_icmp .ge 22, 156, 0, []), (137, .aload_n 0, 0, 0, []), (138, .getfield 45, 10, 5, []), (141, .iload_n 1, 1, 0, []), (142, .new 43, 8, 4, []), (145, .dup, 0, 0, []), (146, .invokespecial 67, 90, 8, [(1, 0)]), (149, .aastore, 17, 8, []), (150, .iinc 1 1, 1, 1, []), (153, .goto (-25), 128, 0, []), (156, .aload_n 0, 0, 0, []), (157, .invokevirtual 68, 125, 10, [(1, 0)]), (160, .return_, 0, 0, [])], [(37, [true, false]), (75, [true, false]), (98, [true, true]), (128, [true, true])], 2, 0)
def zt_99 : zT := ([(0, .iload_n 1, 1, 0, []), (1, .ifCond .lt 9, 10, 0, []), (4, .iload_n 1, 1, 0, []), (5, .bipush 127, 0, 127, []), (7, .if_icmp .le 5, 12, 0, []), (10, .iconst (-1), 0, (-1), []), (11, .ireturn, 0, 0, []), (12, .aload_n 0, 0, 0, []), (13, .getfield 10, 10, 0, []), (16, .iload_n 1, 1, 0, []), (17, .invokevirtual 71, 92, 9, [(2, 2)]), (20, .ifCond .eq 13, 33, 0, []), (23, .aload_n 0, 0, 0, []), (24, .getfield 10, 10, 0, []), (27, .getfield 75, 9, 2, []), (30, .goto 5, 35, 0, []), (33, .bipush (-3), 0, (-3), []), (35, .ireturn, 0, 0, [])], [], 2, 1)
def zt_100 : zT := ([(0, .aload_n 0, 0, 0, []), (1, .aload_n 0, 0, 0, []), (2, .getfield 10, 10, 0, []), (5, .aload_n 0, 0, 0, []), (6, .getfield 56, 10, 7, []), (9, .invokevirtual 78, 93, 9, [(2, 1)]), (12, .putfield 63, 10, 9, []), (15, .aload_n 0, 0, 0, []), (16, .getfield 10, 10, 0, []), (19, .getfield 82, 9, 3, []), (22, .istore_n 1, 1, 0, []), (23, .aload_n 0, 0, 0, []), (24, .getfield 10, 10, 0, []), (27, .iconst 0, 0, 0, []), (28, .putfield 75, 9, 2, []), (31, .aload_n 0, 0, 0, []), (32, .getfield 63, 10, 9, []), (35, .ifCond .eq 8, 43, 0, []), (38, .bipush (-10), 0, (-10), []), (40, .iload_n 1, 1, 0, []), (41, .isub, 0, 0, []), (42, .ireturn, 0, 0, []), (43, .aload_n 0, 0, 0, []), (44, .getfield 56, 10, 7, []), (47, .astore_n 2, 2, 0, []), (48, .aload_n 0, 0, 0, []), (49, .aload_n 0, 0, 0, []), (50, .getfield 52, 10, 6, []), (53, .putfield 56, 10, 7, []), (56, .aload_n 0, 0, 0, []), (57, .aload_n 2, 2, 0, []), (58, .putfield 52, 10, 6, []), (61, .aload_n 0, 0, 0, []), (62, .getfield 26, 10, 2, []), (65, .invokevirtual 85, 26, 2, [(1, 0)]), (68, .iconst 0, 0, 0, []), (69, .istore_n 3, 3, 0, []), (70, .iload_n 3, 3, 0, []), (71, .iconst 2, 0, 2, []), (72, .if_icmp .ge 14, 86, 0, []), (75, .aload_n 0, 0, 0, []), (76, .iload_n 3, 3, 0, []), (77, .invokevirtual 88, 132, 10, [(2, 0)]), (80, .iinc 3 1, 3, 1, []), (83, .goto (-13), 70, 0, []), (86, .aload_n 0, 0, 0, []), (87, .invokevirtual 68, 125, 10, [(1, 0)]), (90, .aload_n 0, 0, 0, []), (91, .getfield 52, 10, 6, []), (94, .getfield 92, 1, 0, []), (97, .getfield 96, 5, 0, []), (100, .ireturn, 0, 0, [])], [(70, [true, false, false, true])], 4, 1)
def zt_101 : zT := ([(0, .aload_n 0, 0, 0, []), (1, .getfield 63, 10, 9, []), (4, .ireturn, 0, 0, [])], [], 1, 1)
def zt_102 : zT := ([(0, .iload_n 1, 1, 0, []), (1, .tableswitch 196 0 13 #[71, 82, 93, 105, 113, 124, 135, 143, 151, 159, 167, 175, 183, 191], 197, 71, [(0, 72), (1, 83), (2, 94), (3, 106), (4, 114), (5, 125), (6, 136), (7, 144), (8, 152), (9, 160), (10, 168), (11, 176), (12, 184), (13, 192)]), (72, .aload_n 0, 0, 0, []), (73, .getfield 52, 10, 6, []), (76, .getfield 92, 1, 0, []), (79, .getfield 96, 5, 0, []), (82, .ireturn, 0, 0, []), (83, .aload_n 0, 0, 0, []), (84, .getfield 52, 10, 6, []), (87, .getfield 92, 1, 0, []), (90, .invokevirtual 101, 59, 5, [(1, 1)]), (93, .ireturn, 0, 0, []), (94, .aload_n 0, 0, 0, []), (95, .getfield 33, 10, 3, []), (98, .aload_n 0, 0, 0, []), (99, .getfield 52, 10, 6, []), (102, .invokevirtual 105, 79, 6, [(2, 1)]), (105, .ireturn, 0, 0, []), (106, .aload_n 0, 0, 0, []), (107, .getfield 52, 10, 6, []), (110, .invokevirtual 108, 22, 1, [(1, 1)]), (113, .ireturn, 0, 0, []), (114, .aload_n 0, 0, 0, []), (115, .getfield 52, 10, 6, []), (118, .getfield 111, 1, 1, []), (121, .getfield 115, 0, 0, []), (124, .ireturn, 0, 0, []), (125, .aload_n 0, 0, 0, []), (126, .getfield 52, 10, 6, []), (129, .getfield 111, 1, 1, []), (132, .invokevirtual 118, 6, 0, [(1, 1)]), (135, .ireturn, 0, 0, []), (136, .aload_n 0, 0, 0, []), (137, .getfield 19, 10, 1, []), (140, .getfield 121, 7, 0, []), (143, .ireturn, 0, 0, []), (144, .aload_n 0, 0, 0, []), (145, .getfield 19, 10, 1, []), (148, .getfield 124, 7, 1, []), (151, .ireturn, 0, 0, []), (152, .aload_n 0, 0, 0, []), (153, .getfield 19, 10, 1, []), (156, .getfield 127, 7, 2, []), (159, .ireturn, 0, 0, []), (160, .aload_n 0, 0, 0, []), (161, .getfield 19, 10, 1, []), (164, .getfield 130, 7, 3, []), (167, .ireturn, 0, 0, []), (168, .aload_n 0, 0, 0, []), (169, .getfield 26, 10, 2, []), (172, .getfield 133, 2, 1, []), (175, .ireturn, 0, 0, []), (176, .aload_n 0, 0, 0, []), (177, .getfield 26, 10, 2, []), (180, .getfield 136, 2, 2, []), (183, .ireturn, 0, 0, []), (184, .aload_n 0, 0, 0, []), (185, .getfield 10, 10, 0, []), (188, .getfield 75, 9, 2, []), (191, .ireturn, 0, 0, []), (192, .aload_n 0, 0, 0, []), (193, .invokevirtual 139, 131, 10, [(1, 1)]), (196, .ireturn, 0, 0, []), (197, .iconst (-1), 0, (-1), []), (198, .ireturn, 0, 0, [])], [], 2, 1)
def zt_103 : zT := ([(0, .aload_n 0, 0, 0, []), (1, .getfield 52, 10, 6, []), (4, .getfield 92, 1, 0, []), (7, .iload_n 1, 1, 0, []), (8, .invokevirtual 142, 56, 5, [(2, 2)]), (11, .ifCond .eq 7, 18, 0, []), (14, .iload_n 2, 2, 0, []), (15, .ifCond .ge 5, 20, 0, []), (18, .iconst (-1), 0, (-1), []), (19, .ireturn, 0, 0, []), (20, .iload_n 2, 2, 0, []), (21, .aload_n 0, 0, 0, []), (22, .getfield 52, 10, 6, []), (25, .getfield 92, 1, 0, []), (28, .iload_n 1, 1, 0, []), (29, .invokevirtual 145, 58, 5, [(2, 1)]), (32, .if_icmp .ge 18, 50, 0, []), (35, .aload_n 0, 0, 0, []), (36, .getfield 52, 10, 6, []), (39, .getfield 92, 1, 0, []), (42, .iload_n 1, 1, 0, []), (43, .iload_n 2, 2, 0, []), (44, .invokevirtual 149, 60, 5, [(3, 1)]), (47, .goto 5, 52, 0, []), (50, .bipush (-4), 0, (-4), []), (52, .ireturn, 0, 0, [])], [], 3, 1)
def zt_104 : zT := ([(0, .aload_n 0, 0, 0, []), (1, .getfield 52, 10, 6, []), (4, .getfield 92, 1, 0, []), (7, .iload_n 1, 1, 0, []), (8, .invokevirtual 142, 56, 5, [(2, 2)]), (11, .ifCond .ne 5, 16, 0, []), (14, .iconst (-1), 0, (-1), []), (15, .ireturn, 0, 0, []), (16, .aload_n 0, 0, 0, []), (17, .getfield 33, 10, 3, []), (20, .iload_n 1, 1, 0, []), (21, .invokevirtual 153, 77, 6, [(2, 3)]), (24, .astore_n 3, 3, 0, []), (25, .iload_n 2, 2, 0, []), (26, .tableswitch 111 0 6 #[42, 54, 59, 91, 96, 101, 106], 137, 42, [(0, 68), (1, 80), (2, 85), (3, 117), (4, 122), (5, 127), (6, 132)]), (68, .aload_n 0, 0, 0, []), (69, .getfield 52, 10, 6, []), (72, .getfield 92, 1, 0, []), (75, .iload_n 1, 1, 0, []), (76, .invokevirtual 145, 58, 5, [(2, 1)]), (79, .ireturn, 0, 0, []), (80, .aload_n 3, 3, 0, []), (81, .getfield 157, 4, 1, []), (84, .ireturn, 0, 0, []), (85, .aload_n 0, 0, 0, []), (86, .getfield 52, 10, 6, []), (89, .getfield 111, 1, 1, []), (92, .iload_n 1, 1, 0, []), (93, .invokevirtual 162, 8, 0, [(2, 2)]), (96, .ifCond .eq 8, 104, 0, []), (99, .bipush (-4), 0, (-4), []), (101, .goto 15, 116, 0, []), (104, .aload_n 0, 0, 0, []), (105, .getfield 33, 10, 3, []), (108, .aload_n 0, 0, 0, []), (109, .getfield 52, 10, 6, []), (112, .iload_n 1, 1, 0, []), (113, .invokevirtual 165, 80, 6, [(3, 1)]), (116, .ireturn, 0, 0, []), (117, .aload_n 3, 3, 0, []), (118, .getfield 169, 4, 2, []), (121, .ireturn, 0, 0, []), (122, .aload_n 3, 3, 0, []), (123, .invokevirtual 172, 35, 4, [(1, 1)]), (126, .ireturn, 0, 0, []), (127, .aload_n 3, 3, 0, []), (128, .invokevirtual 175, 36, 4, [(1, 1)]), (131, .ireturn, 0, 0, []), (132, .aload_n 3, 3, 0, []), (133, .invokevirtual 178, 37, 4, [(1, 1)]), (136, .ireturn, 0, 0, []), (137, .iconst (-1), 0, (-1), []), (138, .ireturn, 0, 0, [])], [], 4, 1)
def zt_105 : zT := ([(0, .aload_n 0, 0, 0, []), (1, .getfield 33, 10, 3, []), (4, .aload_n 0, 0, 0, []), (5, .getfield 52, 10, 6, []), (8, .iload_n 1, 1, 0, []), (9, .invokevirtual 181, 82, 6, [(3, 1)]), (12, .istore_n 3, 3, 0, []), (13, .iload_n 3, 3, 0, []), (14, .ifCond .ge 5, 19, 0, []), (17, .iconst (-1), 0, (-1), []), (18, .ireturn, 0, 0, []), (19, .aload_n 0, 0, 0, []), (20, .getfield 33, 10, 3, []), (23, .iload_n 3, 3, 0, []), (24, .invokevirtual 153, 77, 6, [(2, 3)]), (27, .astore 4, 4, 0, []), (29, .iload_n 1, 1, 0, []), (30, .aload_n 0, 0, 0, []), (31, .getfield 33, 10, 3, []), (34, .aload_n 0, 0, 0, []), (35, .getfield 52, 10, 6, []), (38, .iload_n 3, 3, 0, []), (39, .invokevirtual 165, 80, 6, [(3, 1)]), (42, .isub, 0, 0, []), (43, .istore 5, 5, 0, []), (45, .iload_n 2, 2, 0, []), (46, .tableswitch 70 0 4 #[34, 36, 44, 54, 62], 116, 34, [(0, 80), (1, 82), (2, 90), (3, 100), (4, 108)]), (80, .iload_n 3, 3, 0, []), (81, .ireturn, 0, 0, []), (82, .aload 4, 4, 0, []), (84, .iload 5, 5, 0, []), (86, .invokevirtual 184, 42, 4, [(2, 1)]), (89, .ireturn, 0, 0, []), (90, .aload 4, 4, 0, []), (92, .iload 5, 5, 0, []), (94, .iconst 1, 0, 1, []), (95, .iadd, 0, 0, []), (96, .invokevirtual 184, 42, 4, [(2, 1)]), (99, .ireturn, 0, 0, []), (100, .aload 4, 4, 0, []), (102, .iload 5, 5, 0, []), (104, .invokevirtual 187, 43, 4, [(2, 1)]), (107, .ireturn, 0, 0, []), (108, .aload 4, 4, 0, []), (110, .iload 5, 5, 0, []), (112, .invokevirtual 190, 44, 4, [(2, 1)]), (115, .ireturn, 0, 0, []), (116, .iconst (-1), 0, (-1), []), (117, .ireturn, 0, 0, [])], [], 6, 1)
def zt_106 : zT := ([(0, .aload_n 0, 0, 0, []), (1, .getfield 33, 10, 3, []), (4, .aload_n 0, 0, 0, []), (5, .getfield 52, 10, 6, []), (8, .iload_n 1, 1, 0, []), (9, .invokevirtual 181, 82, 6, [(3, 1)]), (12, .istore_n 3, 3, 0, []), (13, .iload_n 3, 3, 0, []), (14, .ifCond .lt 7, 21, 0, []), (17, .iload_n 2, 2, 0, []), (18, .ifCond .ge 5, 23, 0, []), (21, .iconst (-1), 0, (-1), []), (22, .ireturn, 0, 0, []), (23, .aload_n 0, 0, 0, []), (24, .getfield 33, 10, 3, []), (27, .iload_n 3, 3, 0, []), (28, .invokevirtual 153, 77, 6, [(2, 3)]), (31, .iload_n 1, 1, 0, []), (32, .aload_n 0, 0, 0, []), (33, .getfield 33, 10, 3, []), (36, .aload_n 0, 0, 0, []), (37, .getfield 52, 10, 6, []), (40, .iload_n 3, 3, 0, []), (41, .invokevirtual 165, 80, 6, [(3, 1)]), (44, .isub, 0, 0, []), (45, .iload_n 2, 2, 0, []), (46, .invokevirtual 193, 45, 4, [(3, 1)]), (49, .istore 4, 4, 0, []), (51, .iload 4, 4, 0, []), (53, .ifCond .ge 8, 61, 0, []), (56, .bipush (-4), 0, (-4), []), (58, .goto 5, 63, 0, []), (61, .iload 4, 4, 0, []), (63, .ireturn, 0, 0, [])], [], 5, 1)
def zt_107 : zT := ([(0, .aload_n 0, 0, 0, []), (1, .getfield 52, 10, 6, []), (4, .getfield 92, 1, 0, []), (7, .iload_n 1, 1, 0, []), (8, .iload_n 2, 2, 0, []), (9, .invokevirtual 196, 57, 5, [(3, 2)]), (12, .ifCond .ne 5, 17, 0, []), (15, .iconst (-1), 0, (-1), []), (16, .ireturn, 0, 0, []), (17, .aload_n 0, 0, 0, []), (18, .getfield 33, 10, 3, []), (21, .iload_n 1, 1, 0, []), (22, .invokevirtual 153, 77, 6, [(2, 3)]), (25, .astore 4, 4, 0, []), (27, .iload_n 3, 3, 0, []), (28, .tableswitch 102 0 3 #[32, 65, 72, 87], 130, 32, [(0, 60), (1, 93), (2, 100), (3, 115)]), (60, .aload_n 0, 0, 0, []), (61, .getfield 52, 10, 6, []), (64, .getfield 111, 1, 1, []), (67, .iload_n 1, 1, 0, []), (68, .invokevirtual 162, 8, 0, [(2, 2)]), (71, .ifCond .eq 8, 79, 0, []), (74, .bipush (-4), 0, (-4), []), (76, .goto 16, 92, 0, []), (79, .aload_n 0, 0, 0, []), (80, .getfield 33, 10, 3, []), (83, .aload_n 0, 0, 0, []), (84, .getfield 52, 10, 6, []), (87, .iload_n 1, 1, 0, []), (88, .iload_n 2, 2, 0, []), (89, .invokevirtual 200, 81, 6, [(4, 1)]), (92, .ireturn, 0, 0, []), (93, .aload 4, 4, 0, []), (95, .iload_n 2, 2, 0, []), (96, .invokevirtual 204, 41, 4, [(2, 1)]), (99, .ireturn, 0, 0, []), (100, .aload 4, 4, 0, []), (102, .iload_n 2, 2, 0, []), (103, .invokevirtual 207, 38, 4, [(2, 2)]), (106, .ifCond .eq 7, 113, 0, []), (109, .iconst 1, 0, 1, []), (110, .goto 4, 114, 0, []), (113, .iconst 0, 0, 0, []), (114, .ireturn, 0, 0, []), (115, .aload 4, 4, 0, []), (117, .iload_n 2, 2, 0, []), (118, .invokevirtual 210, 39, 4, [(2, 2)]), (121, .ifCond .eq 7, 128, 0, []), (124, .iconst 1, 0, 1, []), (125, .goto 4, 129, 0, []), (128, .iconst 0, 0, 0, []), (129, .ireturn, 0, 0, []), (130, .iconst (-1), 0, (-1), []), (131, .ireturn, 0, 0, [])], [], 5, 1)
def zt_108 : zT := ([(0, .aload_n 0, 0, 0, []), (1, .getfield 33, 10, 3, []), (4, .aload_n 0, 0, 0, []), (5, .getfield 52, 10, 6, []), (8, .iload_n 1, 1, 0, []), (9, .invokevirtual 181, 82, 6, [(3, 1)]), (12, .istore_n 3, 3, 0, []), (13, .iload_n 3, 3, 0, []), (14, .ifCond .lt 7, 21, 0, []), (17, .iload_n 2, 2, 0, []), (18, .ifCond .ge 5, 23, 0, []), (21, .iconst (-1), 0, (-1), []), (22, .ireturn, 0, 0, []), (23, .aload_n 0, 0, 0, []), (24, .getfield 33, 10, 3, []), (27, .iload_n 3, 3, 0, []), (28, .invokevirtual 153, 77, 6, [(2, 3)]), (31, .iload_n 1, 1, 0, []), (32, .aload_n 0, 0, 0, []), (33, .getfield 33, 10, 3, []), (36, .aload_n 0, 0, 0, []), (37, .getfield 52, 10, 6, []), (40, .iload_n 3, 3, 0, []), (41, .invokevirtual 165, 80, 6, [(3, 1)]), (44, .isub, 0, 0, []), (45, .iload_n 2, 2, 0, []), (46, .invokevirtual 213, 46, 4, [(3, 1)]), (49, .ireturn, 0, 0, [])], [], 4, 1)
def zt_109 : zT := ([(0, .aload_n 0, 0, 0, []), (1, .getfield 52, 10, 6, []), (4, .getfield 111, 1, 1, []), (7, .astore_n 3, 3, 0, []), (8, .aload_n 3, 3, 0, []), (9, .iload_n 1, 1, 0, []), (10, .invokevirtual 216, 1, 0, [(2, 2)]), (13, .ifCond .ne 5, 18, 0, []), (16, .iconst (-1), 0, (-1), []), (17, .ireturn, 0, 0, []), (18, .iload_n 2, 2, 0, []), (19, .tableswitch 61 0 3 #[29, 35, 41, 55], 80, 29, [(0, 48), (1, 54), (2, 60), (3, 74)]), (48, .aload_n 3, 3, 0, []), (49, .iload_n 1, 1, 0, []), (50, .invokevirtual 217, 2, 0, [(2, 1)]), (53, .ireturn, 0, 0, []), (54, .aload_n 3, 3, 0, []), (55, .iload_n 1, 1, 0, []), (56, .invokevirtual 220, 3, 0, [(2, 1)]), (59, .ireturn, 0, 0, []), (60, .aload_n 3, 3, 0, []), (61, .iload_n 1, 1, 0, []), (62, .invokevirtual 223, 4, 0, [(2, 2)]), (65, .ifCond .eq 7, 72, 0, []), (68, .iconst 1, 0, 1, []), (69, .goto 4, 73, 0, []), (72, .iconst 0, 0, 0, []), (73, .ireturn, 0, 0, []), (74, .aload_n 3, 3, 0, []), (75, .iload_n 1, 1, 0, []), (76, .invokevirtual 226, 7, 0, [(2, 1)]), (79, .ireturn, 0, 0, []), (80, .iconst (-1), 0, (-1), []), (81, .ireturn, 0, 0, [])], [], 4, 1)
def zt_110 : zT := ([(0, .iload_n 1, 1, 0, []), (1, .tableswitch 66 0 4 #[35, 43, 51, 56, 61], 67, 35, [(0, 36), (1, 44), (2, 52), (3, 57), (4, 62)]), (36, .aload_n 0, 0, 0, []), (37, .getfield 52, 10, 6, []), (40, .getfield 229, 1, 2, []), (43, .ireturn, 0, 0, []), (44, .aload_n 0, 0, 0, []), (45, .getfield 52, 10, 6, []), (48, .getfield 232, 1, 3, []), (51, .ireturn, 0, 0, []), (52, .aload_n 0, 0, 0, []), (53, .getfield 59, 10, 8, []), (56, .ireturn, 0, 0, []), (57, .aload_n 0, 0, 0, []), (58, .invokevirtual 235, 129, 10, [(1, 1)]), (61, .ireturn, 0, 0, []), (62, .aload_n 0, 0, 0, []), (63, .invokevirtual 238, 130, 10, [(1, 1)]), (66, .ireturn, 0, 0, []), (67, .iconst (-1), 0, (-1), []), (68, .ireturn, 0, 0, [])], [], 2, 1)
def zt_111 : zT := ([(0, .iload_n 1, 1, 0, []), (1, .ifCond .eq 10, 11, 0, []), (4, .iload_n 1, 1, 0, []), (5, .iconst 1, 0, 1, []), (6, .if_icmp .eq 5, 11, 0, []), (9, .iconst (-1), 0, (-1), []), (10, .ireturn, 0, 0, []), (11, .aload_n 0, 0, 0, []), (12, .getfield 33, 10, 3, []), (15, .aload_n 0, 0, 0, []), (16, .getfield 52, 10, 6, []), (19, .getfield 229, 1, 2, []), (22, .invokevirtual 153, 77, 6, [(2, 3)]), (25, .astore_n 2, 2, 0, []), (26, .iload_n 1, 1, 0, []), (27, .ifCond .ne 17, 44, 0, []), (30, .aload_n 2, 2, 0, []), (31, .aload_n 0, 0, 0, []), (32, .getfield 52, 10, 6, []), (35, .getfield 232, 1, 3, []), (38, .invokevirtual 245, 49, 4, [(2, 1)]), (41, .goto 14, 55, 0, []), (44, .aload_n 2, 2, 0, []), (45, .aload_n 0, 0, 0, []), (46, .getfield 52, 10, 6, []), (49, .getfield 232, 1, 3, []), (52, .invokevirtual 248, 48, 4, [(2, 1)]), (55, .istore_n 3, 3, 0, []), (56, .iload_n 3, 3, 0, []), (57, .ifCond .lt 17, 74, 0, []), (60, .aload_n 0, 0, 0, []), (61, .aload_n 0, 0, 0, []), (62, .getfield 52, 10, 6, []), (65, .getfield 229, 1, 2, []), (68, .iload_n 3, 3, 0, []), (69, .invokevirtual 241, 128, 10, [(3, 0)]), (72, .iload_n 3, 3, 0, []), (73, .ireturn, 0, 0, []), (74, .iload_n 1, 1, 0, []), (75, .ifCond .ne 13, 88, 0, []), (78, .aload_n 0, 0, 0, []), (79, .getfield 52, 10, 6, []), (82, .invokevirtual 251, 23, 1, [(1, 1)]), (85, .goto 10, 95, 0, []), (88, .aload_n 0, 0, 0, []), (89, .getfield 52, 10, 6, []), (92, .invokevirtual 254, 24, 1, [(1, 1)]), (95, .istore 4, 4, 0, []), (97, .iload 4, 4, 0, []), (99, .ifCond .ge 6, 105, 0, []), (102, .bipush (-4), 0, (-4), []), (104, .ireturn, 0, 0, []), (105, .aload_n 0, 0, 0, []), (106, .iload 4, 4, 0, []), (108, .iload_n 1, 1, 0, []), (109, .ifCond .ne 18, 127, 0, []), (112, .aload_n 0, 0, 0, []), (113, .getfield 52, 10, 6, []), (116, .getfield 92, 1, 0, []), (119, .iload 4, 4, 0, []), (121, .invokevirtual 145, 58, 5, [(2, 1)]), (124, .goto 4, 128, 0, []), (127, .iconst 0, 0, 0, []), (128, .invokevirtual 241, 128, 10, [(3, 0)]), (131, .aload_n 0, 0, 0, []), (132, .getfield 52, 10, 6, []), (135, .getfield 232, 1, 3, []), (138, .ireturn, 0, 0, [])], [(55, [true, true, false, false, false]), (95, [true, true, false, false, false])], 5, 1)
def zt_112 : zT := ([(0, .aload_n 0, 0, 0, []), (1, .invokevirtual 235, 129, 10, [(1, 1)]), (4, .i2l, 0, 0, []), (5, .iload_n 1, 1, 0, []), (6, .i2l, 0, 0, []), (7, .ladd, 0, 0, []), (8, .lstore_n 2, 2, 0, []), (9, .lload_n 2, 2, 0, []), (10, .ldc2_w 257, 0, 2147483647, []), (13, .lcmp, 0, 0, []), (14, .ifCond .le 6, 20, 0, []), (17, .bipush (-3), 0, (-3), []), (19, .ireturn, 0, 0, []), (20, .lconst 0, 0, 0, []), (21, .lload_n 2, 2, 0, []), (22, .aload_n 0, 0, 0, []), (23, .getfield 33, 10, 3, []), (26, .aload_n 0, 0, 0, []), (27, .getfield 52, 10, 6, []), (30, .invokevirtual 105, 79, 6, [(2, 1)]), (33, .i2l, 0, 0, []), (34, .lconst 1, 0, 1, []), (35, .lsub, 0, 0, []), (36, .invokestatic 259, 1004, 0, [(2, 4)]), (39, .invokestatic 265, 1003, 0, [(2, 4)]), (42, .l2i, 0, 0, []), (43, .istore 4, 4, 0, []), (45, .aload_n 0, 0, 0, []), (46, .getfield 33, 10, 3, []), (49, .aload_n 0, 0, 0, []), (50, .getfield 52, 10, 6, []), (53, .iload 4, 4, 0, []), (55, .invokevirtual 181, 82, 6, [(3, 1)]), (58, .istore 5, 5, 0, []), (60, .aload_n 0, 0, 0, []), (61, .getfield 33, 10, 3, []), (64, .iload 5, 5, 0, []), (66, .invokevirtual 153, 77, 6, [(2, 3)]), (69, .iload 4, 4, 0, []), (71, .aload_n 0, 0, 0, []), (72, .getfield 33, 10, 3, []), (75, .aload_n 0, 0, 0, []), (76, .getfield 52, 10, 6, []), (79, .iload 5, 5, 0, []), (81, .invokevirtual 165, 80, 6, [(3, 1)]), (84, .isub, 0, 0, []), (85, .aload_n 0, 0, 0, []), (86, .getfield 59, 10, 8, []), (89, .invokevirtual 213, 46, 4, [(3, 1)]), (92, .istore 6, 6, 0, []), (94, .aload_n 0, 0, 0, []), (95, .getfield 52, 10, 6, []), (98, .iload 5, 5, 0, []), (100, .putfield 229, 1, 2, []), (103, .aload_n 0, 0, 0, []), (104, .getfield 52, 10, 6, []), (107, .iload 6, 6, 0, []), (109, .putfield 232, 1, 3, []), (112, .iload 4, 4, 0, []), (114, .ireturn, 0, 0, [])], [], 7, 1)
def zt_113 : zT := ([(0, .iload_n 1, 1, 0, []), (1, .ifCond .eq 10, 11, 0, []), (4, .iload_n 1, 1, 0, []), (5, .iconst 1, 0, 1, []), (6, .if_icmp .eq 5, 11, 0, []), (9, .iconst (-1), 0, (-1), []), (10, .ireturn, 0, 0, []), (11, .aload_n 0, 0, 0, []), (12, .getfield 33, 10, 3, []), (15, .aload_n 0, 0, 0, []), (16, .getfield 52, 10, 6, []), (19, .getfield 229, 1, 2, []), (22, .invokevirtual 153, 77, 6, [(2, 3)]), (25, .astore_n 2, 2, 0, []), (26, .aload_n 2, 2, 0, []), (27, .aload_n 0, 0, 0, []), (28, .getfield 52, 10, 6, []), (31, .getfield 232, 1, 3, []), (34, .invokevirtual 268, 40, 4, [(2, 1)]), (37, .istore_n 3, 3, 0, []), (38, .iload_n 1, 1, 0, []), (39, .ifCond .ne 11, 50, 0, []), (42, .aload_n 2, 2, 0, []), (43, .iload_n 3, 3, 0, []), (44, .invokevirtual 184, 42, 4, [(2, 1)]), (47, .goto 11, 58, 0, []), (50, .aload_n 2, 2, 0, []), (51, .iload_n 3, 3, 0, []), (52, .ldc_w 270, 0, 2147483647, []), (55, .invokevirtual 213, 46, 4, [(3, 1)]), (58, .istore 4, 4, 0, []), (60, .aload_n 0, 0, 0, []), (61, .aload_n 0, 0, 0, []), (62, .getfield 52, 10, 6, []), (65, .getfield 229, 1, 2, []), (68, .iload 4, 4, 0, []), (70, .invokevirtual 241, 128, 10, [(3, 0)]), (73, .iload 4, 4, 0, []), (75, .ireturn, 0, 0, [])], [(11, [true, true, false, false, false])], 5, 1)
def zt_114 : zT := ([(0, .iload_n 1, 1, 0, []), (1, .invokestatic 271, 136, 0, [(1, 2)]), (4, .ifCond .ne 5, 9, 0, []), (7, .iconst (-1), 0, (-1), []), (8, .ireturn, 0, 0, []), (9, .aload_n 0, 0, 0, []), (10, .getfield 52, 10, 6, []), (13, .getfield 229, 1, 2, []), (16, .istore_n 2, 2, 0, []), (17, .aload_n 0, 0, 0, []), (18, .getfield 52, 10, 6, []), (21, .getfield 92, 1, 0, []), (24, .iload_n 2, 2, 0, []), (25, .invokevirtual 145, 58, 5, [(2, 1)]), (28, .bipush 40, 0, 40, []), (30, .if_icmp .lt 6, 36, 0, []), (33, .bipush (-3), 0, (-3), []), (35, .ireturn, 0, 0, []), (36, .aload_n 0, 0, 0, []), (37, .getfield 26, 10, 2, []), (40, .aload_n 0, 0, 0, []), (41, .getfield 52, 10, 6, []), (44, .invokevirtual 274, 27, 2, [(2, 0)]), (47, .aload_n 0, 0, 0, []), (48, .getfield 52, 10, 6, []), (51, .getfield 92, 1, 0, []), (54, .iload_n 2, 2, 0, []), (55, .aload_n 0, 0, 0, []), (56, .getfield 52, 10, 6, []), (59, .getfield 232, 1, 3, []), (62, .iload_n 1, 1, 0, []), (63, .invokevirtual 278, 64, 5, [(4, 0)]), (66, .aload_n 0, 0, 0, []), (67, .getfield 52, 10, 6, []), (70, .dup, 0, 0, []), (71, .getfield 232, 1, 3, []), (74, .iconst 1, 0, 1, []), (75, .iadd, 0, 0, []), (76, .putfield 232, 1, 3, []), (79, .aload_n 0, 0, 0, []), (80, .invokevirtual 282, 126, 10, [(1, 0)]), (83, .aload_n 0, 0, 0, []), (84, .getfield 52, 10, 6, []), (87, .getfield 92, 1, 0, []), (90, .iload_n 2, 2, 0, []), (91, .invokevirtual 145, 58, 5, [(2, 1)]), (94, .ireturn, 0, 0, [])], [], 3, 1)
def zt_115 : zT := ([(0, .aload_n 0, 0, 0, []), (1, .getfield 52, 10, 6, []), (4, .getfield 232, 1, 3, []), (7, .ifCond .ne 8, 15, 0, []), (10, .aload_n 0, 0, 0, []), (11, .invokevirtual 285, 124, 10, [(1, 1)]), (14, .ireturn, 0, 0, []), (15, .aload_n 0, 0, 0, []), (16, .getfield 52, 10, 6, []), (19, .getfield 229, 1, 2, []), (22, .istore_n 1, 1, 0, []), (23, .aload_n 0, 0, 0, []), (24, .getfield 52, 10, 6, []), (27, .getfield 232, 1, 3, []), (30, .istore_n 2, 2, 0, []), (31, .iconst 0, 0, 0, []), (32, .aload_n 0, 0, 0, []), (33, .getfield 33, 10, 3, []), (36, .iload_n 1, 1, 0, []), (37, .invokevirtual 153, 77, 6, [(2, 3)]), (40, .iload_n 2, 2, 0, []), (41, .invokevirtual 245, 49, 4, [(2, 1)]), (44, .invokestatic 288, 1001, 0, [(2, 1)]), (47, .istore_n 3, 3, 0, []), (48, .aload_n 0, 0, 0, []), (49, .getfield 26, 10, 2, []), (52, .aload_n 0, 0, 0, []), (53, .getfield 52, 10, 6, []), (56, .invokevirtual 274, 27, 2, [(2, 0)]), (59, .aload_n 0, 0, 0, []), (60, .getfield 52, 10, 6, []), (63, .getfield 92, 1, 0, []), (66, .iload_n 1, 1, 0, []), (67, .iload_n 3, 3, 0, []), (68, .iload_n 2, 2, 0, []), (69, .invokevirtual 290, 65, 5, [(4, 0)]), (72, .aload_n 0, 0, 0, []), (73, .getfield 52, 10, 6, []), (76, .iload_n 3, 3, 0, []), (77, .putfield 232, 1, 3, []), (80, .aload_n 0, 0, 0, []), (81, .invokevirtual 282, 126, 10, [(1, 0)]), (84, .iload_n 2, 2, 0, []), (85, .iload_n 3, 3, 0, []), (86, .isub, 0, 0, []), (87, .ireturn, 0, 0, [])], [], 4, 1)
def zt_116 : zT := ([(0, .aload_n 0, 0, 0, []), (1, .getfield 52, 10, 6, []), (4, .getfield 229, 1, 2, []), (7, .istore_n 1, 1, 0, []), (8, .aload_n 0, 0, 0, []), (9, .getfield 52, 10, 6, []), (12, .getfield 111, 1, 1, []), (15, .iload_n 1, 1, 0, []), (16, .invokevirtual 293, 9, 0, [(2, 2)]), (19, .ifCond .eq 6, 25, 0, []), (22, .bipush (-2), 0, (-2), []), (24, .ireturn, 0, 0, []), (25, .aload_n 0, 0, 0, []), (26, .getfield 52, 10, 6, []), (29, .getfield 92, 1, 0, []), (32, .getfield 96, 5, 0, []), (35, .bipush 12, 0, 12, []), (37, .if_icmp .lt 6, 43, 0, []), (40, .bipush (-3), 0, (-3), []), (42, .ireturn, 0, 0, []), (43, .aload_n 0, 0, 0, []), (44, .getfield 26, 10, 2, []), (47, .aload_n 0, 0, 0, []), (48, .getfield 52, 10, 6, []), (51, .invokevirtual 274, 27, 2, [(2, 0)]), (54, .aload_n 0, 0, 0, []), (55, .getfield 52, 10, 6, []), (58, .getfield 92, 1, 0, []), (61, .iload_n 1, 1, 0, []), (62, .aload_n 0, 0, 0, []), (63, .getfield 52, 10, 6, []), (66, .getfield 232, 1, 3, []), (69, .invokevirtual 296, 66, 5, [(3, 0)]), (72, .aload_n 0, 0, 0, []), (73, .getfield 52, 10, 6, []), (76, .getfield 111, 1, 1, []), (79, .iload_n 1, 1, 0, []), (80, .invokevirtual 299, 13, 0, [(2, 0)]), (83, .aload_n 0, 0, 0, []), (84, .getfield 52, 10, 6, []), (87, .iload_n 1, 1, 0, []), (88, .iconst 1, 0, 1, []), (89, .iadd, 0, 0, []), (90, .putfield 229, 1, 2, []), (93, .aload_n 0, 0, 0, []), (94, .getfield 52, 10, 6, []), (97, .iconst 0, 0, 0, []), (98, .putfield 232, 1, 3, []), (101, .aload_n 0, 0, 0, []), (102, .invokevirtual 68, 125, 10, [(1, 0)]), (105, .aload_n 0, 0, 0, []), (106, .getfield 52, 10, 6, []), (109, .getfield 92, 1, 0, []), (112, .getfield 96, 5, 0, []), (115, .ireturn, 0, 0, [])], [], 2, 1)
def zt_117 : zT := ([(0, .aload_n 0, 0, 0, []), (1, .getfield 26, 10, 2, []), (4, .getfield 133, 2, 1, []), (7, .ifCond .ne 6, 13, 0, []), (10, .bipush (-2), 0, (-2), []), (12, .ireturn, 0, 0, []), (13, .aload_n 0, 0, 0, []), (14, .aload_n 0, 0, 0, []), (15, .getfield 26, 10, 2, []), (18, .aload_n 0, 0, 0, []), (19, .getfield 52, 10, 6, []), (22, .invokevirtual 302, 28, 2, [(2, 3)]), (25, .putfield 52, 10, 6, []), (28, .aload_n 0, 0, 0, []), (29, .invokevirtual 68, 125, 10, [(1, 0)]), (32, .aload_n 0, 0, 0, []), (33, .getfield 26, 10, 2, []), (36, .getfield 133, 2, 1, []), (39, .ireturn, 0, 0, [])], [], 1, 1)
def zt_118 : zT := ([(0, .aload_n 0, 0, 0, []), (1, .getfield 26, 10, 2, []), (4, .getfield 136, 2, 2, []), (7, .ifCond .ne 6, 13, 0, []), (10, .bipush (-2), 0, (-2), []), (12, .ireturn, 0, 0, []), (13, .aload_n 0, 0, 0, []), (14, .aload_n 0, 0, 0, []), (15, .getfield 26, 10, 2, []), (18, .aload_n 0, 0, 0, []), (19, .getfield 52, 10, 6, []), (22, .invokevirtual 306, 29, 2, [(2, 3)]), (25, .putfield 52, 10, 6, []), (28, .aload_n 0, 0, 0, []), (29, .invokevirtual 68, 125, 10, [(1, 0)]), (32, .aload_n 0, 0, 0, []), (33, .getfield 26, 10, 2, []), (36, .getfield 136, 2, 2, []), (39, .ireturn, 0, 0, [])], [], 1, 1)
def zt_119 : zT := ([(0, .aload_n 0, 0, 0, []), (1, .getfield 52, 10, 6, []), (4, .getfield 92, 1, 0, []), (7, .iload_n 1, 1, 0, []), (8, .invokevirtual 142, 56, 5, [(2, 2)]), (11, .ifCond .eq 22, 33, 0, []), (14, .aload_n 0, 0, 0, []), (15, .getfield 52, 10, 6, []), (18, .getfield 92, 1, 0, []), (21, .iload_n 2, 2, 0, []), (22, .invokevirtual 142, 56, 5, [(2, 2)]), (25, .ifCond .eq 8, 33, 0, []), (28, .iload_n 2, 2, 0, []), (29, .iload_n 1, 1, 0, []), (30, .if_icmp .gt 5, 35, 0, []), (33, .iconst (-1), 0, (-1), []), (34, .ireturn, 0, 0, []), (35, .aload_n 0, 0, 0, []), (36, .getfield 52, 10, 6, []), (39, .getfield 111, 1, 1, []), (42, .iload_n 1, 1, 0, []), (43, .iload_n 2, 2, 0, []), (44, .invokevirtual 309, 10, 0, [(3, 2)]), (47, .ifCond .eq 6, 53, 0, []), (50, .bipush (-2), 0, (-2), []), (52, .ireturn, 0, 0, []), (53, .aload_n 0, 0, 0, []), (54, .getfield 52, 10, 6, []), (57, .getfield 111, 1, 1, []), (60, .getfield 115, 0, 0, []), (63, .bipush 8, 0, 8, []), (65, .if_icmp .ge 18, 83, 0, []), (68, .aload_n 0, 0, 0, []), (69, .getfield 52, 10, 6, []), (72, .getfield 111, 1, 1, []), (75, .iload_n 1, 1, 0, []), (76, .iload_n 2, 2, 0, []), (77, .invokevirtual 312, 11, 0, [(3, 1)]), (80, .goto 5, 85, 0, []), (83, .bipush (-3), 0, (-3), []), (85, .ireturn, 0, 0, [])], [], 3, 1)
def zt_120 : zT := ([(0, .aload_n 0, 0, 0, []), (1, .getfield 52, 10, 6, []), (4, .getfield 111, 1, 1, []), (7, .astore_n 3, 3, 0, []), (8, .aload_n 3, 3, 0, []), (9, .iload_n 1, 1, 0, []), (10, .invokevirtual 216, 1, 0, [(2, 2)]), (13, .ifCond .eq 12, 25, 0, []), (16, .iload_n 2, 2, 0, []), (17, .ifCond .eq 10, 27, 0, []), (20, .iload_n 2, 2, 0, []), (21, .iconst 1, 0, 1, []), (22, .if_icmp .eq 5, 27, 0, []), (25, .iconst (-1), 0, (-1), []), (26, .ireturn, 0, 0, []), (27, .aload_n 3, 3, 0, []), (28, .iload_n 1, 1, 0, []), (29, .invokevirtual 223, 4, 0, [(2, 2)]), (32, .ifCond .eq 7, 39, 0, []), (35, .iconst 1, 0, 1, []), (36, .goto 4, 40, 0, []), (39, .iconst 0, 0, 0, []), (40, .istore 4, 4, 0, []), (42, .aload_n 3, 3, 0, []), (43, .iload_n 1, 1, 0, []), (44, .iload_n 2, 2, 0, []), (45, .invokevirtual 315, 5, 0, [(3, 0)]), (48, .aload_n 3, 3, 0, []), (49, .aload_n 0, 0, 0, []), (50, .getfield 52, 10, 6, []), (53, .getfield 229, 1, 2, []), (56, .invokevirtual 162, 8, 0, [(2, 2)]), (59, .ifCond .eq 13, 72, 0, []), (62, .aload_n 0, 0, 0, []), (63, .aload_n 3, 3, 0, []), (64, .iload_n 1, 1, 0, []), (65, .invokevirtual 217, 2, 0, [(2, 1)]), (68, .iconst 0, 0, 0, []), (69, .invokevirtual 241, 128, 10, [(3, 0)]), (72, .iload 4, 4, 0, []), (74, .ireturn, 0, 0, [])], [(40, [true, true, true, true, false])], 5, 1)
def zt_121 : zT := ([(0, .iload_n 1, 1, 0, []), (1, .iload_n 2, 2, 0, []), (2, .invokestatic 321, 84, 0, [(2, 2)]), (5, .ifCond .ne 5, 10, 0, []), (8, .iconst (-1), 0, (-1), []), (9, .ireturn, 0, 0, []), (10, .aload_n 0, 0, 0, []), (11, .getfield 19, 10, 1, []), (14, .iload_n 1, 1, 0, []), (15, .iload_n 2, 2, 0, []), (16, .invokevirtual 324, 85, 7, [(3, 1)]), (19, .istore_n 3, 3, 0, []), (20, .aload_n 0, 0, 0, []), (21, .invokevirtual 68, 125, 10, [(1, 0)]), (24, .iload_n 3, 3, 0, []), (25, .ireturn, 0, 0, [])], [], 4, 1)
def zt_122 : zT := ([(0, .aload_n 0, 0, 0, []), (1, .iload_n 1, 1, 0, []), (2, .invokevirtual 327, 133, 10, [(2, 3)]), (5, .astore_n 2, 2, 0, []), (6, .aload_n 2, 2, 0, []), (7, .ifnonnull 5, 12, 0, []), (10, .iconst (-1), 0, (-1), []), (11, .ireturn, 0, 0, []), (12, .aload_n 2, 2, 0, []), (13, .getfield 331, 3, 2, []), (16, .ifCond .eq 7, 23, 0, []), (19, .iconst 1, 0, 1, []), (20, .goto 4, 24, 0, []), (23, .iconst 0, 0, 0, []), (24, .istore_n 3, 3, 0, []), (25, .aload_n 2, 2, 0, []), (26, .iconst 1, 0, 1, []), (27, .putfield 331, 3, 2, []), (30, .aload_n 2, 2, 0, []), (31, .getfield 335, 3, 0, []), (34, .aload_n 0, 0, 0, []), (35, .getfield 52, 10, 6, []), (38, .invokevirtual 338, 21, 1, [(2, 0)]), (41, .aload_n 2, 2, 0, []), (42, .getfield 341, 3, 1, []), (45, .aload_n 0, 0, 0, []), (46, .getfield 19, 10, 1, []), (49, .invokevirtual 342, 86, 7, [(2, 0)]), (52, .iload_n 3, 3, 0, []), (53, .ireturn, 0, 0, [])], [], 4, 1)
def zt_123 : zT := ([(0, .aload_n 0, 0, 0, []), (1, .iload_n 1, 1, 0, []), (2, .invokevirtual 327, 133, 10, [(2, 3)]), (5, .astore_n 2, 2, 0, []), (6, .aload_n 2, 2, 0, []), (7, .ifnonnull 5, 12, 0, []), (10, .iconst (-1), 0, (-1), []), (11, .ireturn, 0, 0, []), (12, .aload_n 2, 2, 0, []), (13, .getfield 331, 3, 2, []), (16, .ifCond .ne 6, 22, 0, []), (19, .bipush (-2), 0, (-2), []), (21, .ireturn, 0, 0, []), (22, .aload_n 0, 0, 0, []), (23, .getfield 52, 10, 6, []), (26, .aload_n 2, 2, 0, []), (27, .getfield 335, 3, 0, []), (30, .invokevirtual 338, 21, 1, [(2, 0)]), (33, .aload_n 0, 0, 0, []), (34, .getfield 19, 10, 1, []), (37, .aload_n 2, 2, 0, []), (38, .getfield 341, 3, 1, []), (41, .invokevirtual 342, 86, 7, [(2, 0)]), (44, .aload_n 0, 0, 0, []), (45, .getfield 26, 10, 2, []), (48, .invokevirtual 85, 26, 2, [(1, 0)]), (51, .aload_n 0, 0, 0, []), (52, .invokevirtual 68, 125, 10, [(1, 0)]), (55, .aload_n 0, 0, 0, []), (56, .getfield 52, 10, 6, []), (59, .getfield 92, 1, 0, []), (62, .getfield 96, 5, 0, []), (65, .ireturn, 0, 0, [])], [], 3, 1)
def zt_124 : zT := ([(0, .aload_n 0, 0, 0, []), (1, .getfield 52, 10, 6, []), (4, .getfield 229, 1, 2, []), (7, .iconst 1, 0, 1, []), (8, .isub, 0, 0, []), (9, .istore_n 1, 1, 0, []), (10, .iload_n 1, 1, 0, []), (11, .ifCond .ge 6, 17, 0, []), (14, .bipush (-4), 0, (-4), []), (16, .ireturn, 0, 0, []), (17, .aload_n 0, 0, 0, []), (18, .getfield 52, 10, 6, []), (21, .getfield 111, 1, 1, []), (24, .iload_n 1, 1, 0, []), (25, .invokevirtual 162, 8, 0, [(2, 2)]), (28, .ifCond .eq 6, 34, 0, []), (31, .bipush (-2), 0, (-2), []), (33, .ireturn, 0, 0, []), (34, .aload_n 0, 0, 0, []), (35, .getfield 52, 10, 6, []), (38, .getfield 92, 1, 0, []), (41, .iload_n 1, 1, 0, []), (42, .invokevirtual 145, 58, 5, [(2, 1)]), (45, .istore_n 2, 2, 0, []), (46, .iload_n 2, 2, 0, []), (47, .aload_n 0, 0, 0, []), (48, .getfield 52, 10, 6, []), (51, .getfield 92, 1, 0, []), (54, .iload_n 1, 1, 0, []), (55, .iconst 1, 0, 1, []), (56, .iadd, 0, 0, []), (57, .invokevirtual 145, 58, 5, [(2, 1)]), (60, .iadd, 0, 0, []), (61, .bipush 40, 0, 40, []), (63, .if_icmp .le 6, 69, 0, []), (66, .bipush (-3), 0, (-3), []), (68, .ireturn, 0, 0, []), (69, .aload_n 0, 0, 0, []), (70, .getfield 26, 10, 2, []), (73, .aload_n 0, 0, 0, []), (74, .getfield 52, 10, 6, []), (77, .invokevirtual 274, 27, 2, [(2, 0)]), (80, .aload_n 0, 0, 0, []), (81, .getfield 52, 10, 6, []), (84, .getfield 92, 1, 0, []), (87, .iload_n 1, 1, 0, []), (88, .invokevirtual 367, 67, 5, [(2, 0)]), (91, .aload_n 0, 0, 0, []), (92, .getfield 52, 10, 6, []), (95, .getfield 111, 1, 1, []), (98, .iload_n 1, 1, 0, []), (99, .invokevirtual 370, 14, 0, [(2, 0)]), (102, .aload_n 0, 0, 0, []), (103, .getfield 52, 10, 6, []), (106, .iload_n 1, 1, 0, []), (107, .putfield 229, 1, 2, []), (110, .aload_n 0, 0, 0, []), (111, .getfield 52, 10, 6, []), (114, .iload_n 2, 2, 0, []), (115, .putfield 232, 1, 3, []), (118, .aload_n 0, 0, 0, []), (119, .invokevirtual 68, 125, 10, [(1, 0)]), (122, .iconst 0, 0, 0, []), (123, .ireturn, 0, 0, [])], [], 3, 1)
def zt_125 : zT := ([(0, .aload_n 0, 0, 0, []), (1, .getfield 33, 10, 3, []), (4, .aload_n 0, 0, 0, []), (5, .getfield 52, 10, 6, []), (8, .getfield 92, 1, 0, []), (11, .aload_n 0, 0, 0, []), (12, .getfield 19, 10, 1, []), (15, .invokevirtual 373, 78, 6, [(3, 0)]), (18, .aload_n 0, 0, 0, []), (19, .invokevirtual 377, 127, 10, [(1, 0)]), (22, .return_, 0, 0, [])], [], 1, 0)
def zt_126 : zT := ([(0, .aload_n 0, 0, 0, []), (1, .getfield 33, 10, 3, []), (4, .aload_n 0, 0, 0, []), (5, .getfield 52, 10, 6, []), (8, .getfield 229, 1, 2, []), (11, .invokevirtual 153, 77, 6, [(2, 3)]), (14, .aload_n 0, 0, 0, []), (15, .getfield 52, 10, 6, []), (18, .getfield 92, 1, 0, []), (21, .aload_n 0, 0, 0, []), (22, .getfield 52, 10, 6, []), (25, .getfield 229, 1, 2, []), (28, .aload_n 0, 0, 0, []), (29, .getfield 19, 10, 1, []), (32, .invokevirtual 380, 34, 4, [(4, 0)]), (35, .aload_n 0, 0, 0, []), (36, .invokevirtual 377, 127, 10, [(1, 0)]), (39, .return_, 0, 0, [])], [], 1, 0)
def zt_127 : zT := ([(0, .aload_n 0, 0, 0, []), (1, .getfield 33, 10, 3, []), (4, .aload_n 0, 0, 0, []), (5, .getfield 52, 10, 6, []), (8, .getfield 229, 1, 2, []), (11, .invokevirtual 153, 77, 6, [(2, 3)]), (14, .aload_n 0, 0, 0, []), (15, .getfield 52, 10, 6, []), (18, .getfield 232, 1, 3, []), (21, .invokevirtual 384, 47, 4, [(2, 1)]), (24, .istore_n 1, 1, 0, []), (25, .aload_n 0, 0, 0, []), (26, .aload_n 0, 0, 0, []), (27, .getfield 52, 10, 6, []), (30, .getfield 229, 1, 2, []), (33, .iload_n 1, 1, 0, []), (34, .invokevirtual 241, 128, 10, [(3, 0)]), (37, .return_, 0, 0, [])], [], 2, 0)
def zt_128 : zT := ([(0, .aload_n 0, 0, 0, []), (1, .getfield 52, 10, 6, []), (4, .iload_n 1, 1, 0, []), (5, .putfield 229, 1, 2, []), (8, .aload_n 0, 0, 0, []), (9, .getfield 52, 10, 6, []), (12, .iload_n 2, 2, 0, []), (13, .putfield 232, 1, 3, []), (16, .aload_n 0, 0, 0, []), (17, .aload_n 0, 0, 0, []), (18, .invokevirtual 238, 130, 10, [(1, 1)]), (21, .putfield 59, 10, 8, []), (24, .return_, 0, 0, [])], [], 3, 0)
def zt_129 : zT := ([(0, .aload_n 0, 0, 0, []), (1, .getfield 33, 10, 3, []), (4, .aload_n 0, 0, 0, []), (5, .getfield 52, 10, 6, []), (8, .aload_n 0, 0, 0, []), (9, .getfield 52, 10, 6, []), (12, .getfield 229, 1, 2, []), (15, .aload_n 0, 0, 0, []), (16, .getfield 52, 10, 6, []), (19, .getfield 232, 1, 3, []), (22, .invokevirtual 200, 81, 6, [(4, 1)]), (25, .ireturn, 0, 0, [])], [], 1, 1)
def zt_130 : zT := ([(0, .aload_n 0, 0, 0, []), (1, .getfield 33, 10, 3, []), (4, .aload_n 0, 0, 0, []), (5, .getfield 52, 10, 6, []), (8, .getfield 229, 1, 2, []), (11, .invokevirtual 153, 77, 6, [(2, 3)]), (14, .aload_n 0, 0, 0, []), (15, .getfield 52, 10, 6, []), (18, .getfield 232, 1, 3, []), (21, .invokevirtual 204, 41, 4, [(2, 1)]), (24, .ireturn, 0, 0, [])], [], 1, 1)
def zt_131 : zT := ([(0, .iconst 0, 0, 0, []), (1, .istore_n 1, 1, 0, []), (2, .iconst 0, 0, 0, []), (3, .istore_n 2, 2, 0, []), (4, .iload_n 2, 2, 0, []), (5, .iconst 2, 0, 2, []), (6, .if_icmp .ge 29, 35, 0, []), (9, .aload_n 0, 0, 0, []), (10, .iload_n 2, 2, 0, []), (11, .invokevirtual 327, 133, 10, [(2, 3)]), (14, .astore_n 3, 3, 0, []), (15, .aload_n 3, 3, 0, []), (16, .ifnull 13, 29, 0, []), (19, .aload_n 3, 3, 0, []), (20, .getfield 331, 3, 2, []), (23, .ifCond .eq 6, 29, 0, []), (26, .iinc 1 1, 1, 1, []), (29, .iinc 2 1, 2, 1, []), (32, .goto (-28), 4, 0, []), (35, .iload_n 1, 1, 0, []), (36, .ireturn, 0, 0, [])], [(4, [true, true, true, false])], 4, 1)
def zt_132 : zT := ([(0, .aload_n 0, 0, 0, []), (1, .iload_n 1, 1, 0, []), (2, .invokevirtual 327, 133, 10, [(2, 3)]), (5, .astore_n 2, 2, 0, []), (6, .aload_n 2, 2, 0, []), (7, .ifnull 8, 15, 0, []), (10, .aload_n 2, 2, 0, []), (11, .iconst 0, 0, 0, []), (12, .putfield 331, 3, 2, []), (15, .return_, 0, 0, [])], [], 3, 0)
def zt_133 : zT := ([(0, .iload_n 1, 1, 0, []), (1, .ifCond .lt 21, 22, 0, []), (4, .iload_n 1, 1, 0, []), (5, .aload_n 0, 0, 0, []), (6, .getfield 39, 10, 4, []), (9, .arraylength, 15, 0, []), (10, .if_icmp .ge 12, 22, 0, []), (13, .aload_n 0, 0, 0, []), (14, .getfield 39, 10, 4, []), (17, .iload_n 1, 1, 0, []), (18, .aaload, 15, 0, []), (19, .goto 4, 23, 0, []), (22, .aconst_null, 0, 0, []), (23, .areturn, 0, 0, [])], [], 2, 3)
def zt_134 : zT := ([(0, .iload_n 0, 0, 0, []), (1, .bipush 65, 0, 65, []), (3, .if_icmp .lt 13, 16, 0, []), (6, .iload_n 0, 0, 0, []), (7, .bipush 90, 0, 90, []), (9, .if_icmp .gt 7, 16, 0, []), (12, .iconst 1, 0, 1, []), (13, .goto 4, 17, 0, []), (16, .iconst 0, 0, 0, []), (17, .ireturn, 0, 0, [])], [], 1, 2)
def zt_135 : zT := ([(0, .iload_n 0, 0, 0, []), (1, .bipush 32, 0, 32, []), (3, .if_icmp .eq 9, 12, 0, []), (6, .iload_n 0, 0, 0, []), (7, .bipush 9, 0, 9, []), (9, .if_icmp .ne 7, 16, 0, []), (12, .iconst 1, 0, 1, []), (13, .goto 4, 17, 0, []), (16, .iconst 0, 0, 0, []), (17, .ireturn, 0, 0, [])], [], 1, 2)
def zt_136 : zT := ([(0, .iload_n 0, 0, 0, []), (1, .bipush 97, 0, 97, []), (3, .if_icmp .lt 9, 12, 0, []), (6, .iload_n 0, 0, 0, []), (7, .bipush 122, 0, 122, []), (9, .if_icmp .le 29, 38, 0, []), (12, .iload_n 0, 0, 0, []), (13, .invokestatic 387, 134, 0, [(1, 2)]), (16, .ifCond .ne 22, 38, 0, []), (19, .iload_n 0, 0, 0, []), (20, .invokestatic 390, 135, 0, [(1, 2)]), (23, .ifCond .ne 15, 38, 0, []), (26, .iload_n 0, 0, 0, []), (27, .bipush 45, 0, 45, []), (29, .if_icmp .eq 9, 38, 0, []), (32, .iload_n 0, 0, 0, []), (33, .bipush 126, 0, 126, []), (35, .if_icmp .ne 7, 42, 0, []), (38, .iconst 1, 0, 1, []), (39, .goto 4, 43, 0, []), (42, .iconst 0, 0, 0, []), (43, .ireturn, 0, 0, [])], [(12, [true])], 1, 2)
def zt_137 : zT := ([(0, .iload_n 0, 0, 0, []), (1, .invokestatic 390, 135, 0, [(1, 2)]), (4, .ifCond .ne 16, 20, 0, []), (7, .iload_n 0, 0, 0, []), (8, .invokestatic 387, 134, 0, [(1, 2)]), (11, .ifCond .ne 9, 20, 0, []), (14, .iload_n 0, 0, 0, []), (15, .bipush 45, 0, 45, []), (17, .if_icmp .ne 7, 24, 0, []), (20, .iconst 1, 0, 1, []), (21, .goto 4, 25, 0, []), (24, .iconst 0, 0, 0, []), (25, .ireturn, 0, 0, [])], [], 1, 2)
def zt_138 : zT := ([(0, .iload_n 0, 0, 0, []), (1, .ldc 7, 0, 2147483647, []), (3, .iand, 0, 0, []), (4, .iload_n 1, 1, 0, []), (5, .irem, 0, 0, []), (6, .ireturn, 0, 0, [])], [], 2, 1)
def zt_139 : zT := ([(0, .aload_n 0, 0, 0, []), (1, .arraylength, 18, 0, []), (2, .ifCond .ne 13, 15, 0, []), (5, .sipush 7919, 0, 7919, []), (8, .iload_n 1, 1, 0, []), (9, .imul, 0, 0, []), (10, .iconst 3, 0, 3, []), (11, .iadd, 0, 0, []), (12, .goto 27, 39, 0, []), (15, .aload_n 0, 0, 0, []), (16, .iload_n 1, 1, 0, []), (17, .aload_n 0, 0, 0, []), (18, .arraylength, 18, 0, []), (19, .irem, 0, 0, []), (20, .iaload, 18, 0, []), (21, .iload_n 1, 1, 0, []), (22, .bipush 7, 0, 7, []), (24, .irem, 0, 0, []), (25, .ishr, 0, 0, []), (26, .iload_n 1, 1, 0, []), (27, .aload_n 0, 0, 0, []), (28, .arraylength, 18, 0, []), (29, .idiv, 0, 0, []), (30, .bipush 31, 0, 31, []), (32, .imul, 0, 0, []), (33, .ixor, 0, 0, []), (34, .iload_n 1, 1, 0, []), (35, .ldc 8, 0, 2654435, []), (37, .imul, 0, 0, []), (38, .ixor, 0, 0, []), (39, .ireturn, 0, 0, [])], [], 2, 1)
def zt_140 : zT := ([(0, .iload_n 0, 0, 0, []), (1, .bipush 12, 0, 12, []), (3, .invokestatic 9, 138, 0, [(2, 1)]), (6, .istore_n 1, 1, 0, []), (7, .iload_n 1, 1, 0, []), (8, .iconst 3, 0, 3, []), (9, .if_icmp .ge 8, 17, 0, []), (12, .bipush 32, 0, 32, []), (14, .goto 66, 80, 0, []), (17, .iload_n 1, 1, 0, []), (18, .iconst 3, 0, 3, []), (19, .if_icmp .ne 8, 27, 0, []), (22, .bipush 9, 0, 9, []), (24, .goto 56, 80, 0, []), (27, .iload_n 1, 1, 0, []), (28, .bipush 6, 0, 6, []), (30, .if_icmp .ge 17, 47, 0, []), (33, .bipush 65, 0, 65, []), (35, .iload_n 0, 0, 0, []), (36, .iconst 4, 0, 4, []), (37, .ishr, 0, 0, []), (38, .bipush 26, 0, 26, []), (40, .invokestatic 9, 138, 0, [(2, 1)]), (43, .iadd, 0, 0, []), (44, .goto 36, 80, 0, []), (47, .iload_n 1, 1, 0, []), (48, .bipush 6, 0, 6, []), (50, .if_icmp .ne 8, 58, 0, []), (53, .bipush 126, 0, 126, []), (55, .goto 25, 80, 0, []), (58, .iload_n 1, 1, 0, []), (59, .bipush 7, 0, 7, []), (61, .if_icmp .ne 8, 69, 0, []), (64, .bipush 45, 0, 45, []), (66, .goto 14, 80, 0, []), (69, .bipush 97, 0, 97, []), (71, .iload_n 0, 0, 0, []), (72, .iconst 4, 0, 4, []), (73, .ishr, 0, 0, []), (74, .bipush 26, 0, 26, []), (76, .invokestatic 9, 138, 0, [(2, 1)]), (79, .iadd, 0, 0, []), (80, .ireturn, 0, 0, [])], [], 2, 1)
def zt_141 : zT := ([(0, .iconst 5, 0, 5, []), (1, .iload_n 1, 1, 0, []), (2, .imul, 0, 0, []), (3, .iload_n 2, 2, 0, []), (4, .bipush 8, 0, 8, []), (6, .idiv, 0, 0, []), (7, .iadd, 0, 0, []), (8, .istore 4, 4, 0, []), (10, .aload_n 0, 0, 0, []), (11, .iload 4, 4, 0, []), (13, .aload_n 0, 0, 0, []), (14, .iload 4, 4, 0, []), (16, .laload, 0, 0, []), (17, .ldc2_w 15, 0, 255, []), (20, .bipush 8, 0, 8, []), (22, .iload_n 2, 2, 0, []), (23, .bipush 8, 0, 8, []), (25, .irem, 0, 0, []), (26, .imul, 0, 0, []), (27, .lshl, 0, 0, []), (28, .ldc2_w 17, 0, (-1), []), (31, .lxor, 0, 0, []), (32, .land, 0, 0, []), (33, .iload_n 3, 3, 0, []), (34, .i2l, 0, 0, []), (35, .bipush 8, 0, 8, []), (37, .iload_n 2, 2, 0, []), (38, .bipush 8, 0, 8, []), (40, .irem, 0, 0, []), (41, .imul, 0, 0, []), (42, .lshl, 0, 0, []), (43, .lor, 0, 0, []), (44, .lastore, 0, 0, []), (45, .return_, 0, 0, [])], [], 5, 0)
def zt_142 : zT := ([(0, .iload_n 0, 0, 0, []), (1, .iload_n 3, 3, 0, []), (2, .if_icmp .gt 32, 34, 0, []), (5, .iload_n 2, 2, 0, []), (6, .iload_n 1, 1, 0, []), (7, .if_icmp .gt 27, 34, 0, []), (10, .iload_n 0, 0, 0, []), (11, .iload_n 2, 2, 0, []), (12, .if_icmp .gt 8, 20, 0, []), (15, .iload_n 3, 3, 0, []), (16, .iload_n 1, 1, 0, []), (17, .if_icmp .le 17, 34, 0, []), (20, .iload_n 2, 2, 0, []), (21, .iload_n 0, 0, 0, []), (22, .if_icmp .gt 8, 30, 0, []), (25, .iload_n 1, 1, 0, []), (26, .iload_n 3, 3, 0, []), (27, .if_icmp .le 7, 34, 0, []), (30, .iconst 1, 0, 1, []), (31, .goto 4, 35, 0, []), (34, .iconst 0, 0, 0, []), (35, .ireturn, 0, 0, [])], [(20, [true, true, true, true])], 4, 2)
def zt_143 : zT := ([(0, .iconst 0, 0, 0, []), (1, .istore 4, 4, 0, []), (3, .iconst 0, 0, 0, []), (4, .istore 5, 5, 0, []), (6, .iload 5, 5, 0, []), (8, .iload_n 1, 1, 0, []), (9, .if_icmp .ge 73, 82, 0, []), (12, .iload 4, 4, 0, []), (14, .ifCond .ne 55, 69, 0, []), (17, .aload_n 0, 0, 0, []), (18, .bipush 14, 0, 14, []), (20, .iconst 3, 0, 3, []), (21, .iload 5, 5, 0, []), (23, .imul, 0, 0, []), (24, .iadd, 0, 0, []), (25, .iaload, 12, 0, []), (26, .iload_n 2, 2, 0, []), (27, .if_icmp .ne 16, 43, 0, []), (30, .aload_n 0, 0, 0, []), (31, .bipush 15, 0, 15, []), (33, .iconst 3, 0, 3, []), (34, .iload 5, 5, 0, []), (36, .imul, 0, 0, []), (37, .iadd, 0, 0, []), (38, .iaload, 12, 0, []), (39, .iload_n 3, 3, 0, []), (40, .if_icmp .eq 29, 69, 0, []), (43, .aload_n 0, 0, 0, []), (44, .bipush 14, 0, 14, []), (46, .iconst 3, 0, 3, []), (47, .iload 5, 5, 0, []), (49, .imul, 0, 0, []), (50, .iadd, 0, 0, []), (51, .iaload, 12, 0, []), (52, .aload_n 0, 0, 0, []), (53, .bipush 15, 0, 15, []), (55, .iconst 3, 0, 3, []), (56, .iload 5, 5, 0, []), (58, .imul, 0, 0, []), (59, .iadd, 0, 0, []), (60, .iaload, 12, 0, []), (61, .iload_n 2, 2, 0, []), (62, .iload_n 3, 3, 0, []), (63, .invokestatic 19, 142, 0, [(4, 2)]), (66, .ifCond .eq 7, 73, 0, []), (69, .iconst 1, 0, 1, []), (70, .goto 4, 74, 0, []), (73, .iconst 0, 0, 0, []), (74, .istore 4, 4, 0, []), (76, .iinc 5 1, 5, 1, []), (79, .goto (-73), 6, 0, []), (82, .iload 4, 4, 0, []), (84, .ireturn, 0, 0, [])], [(6, [true, true, true, true, true, true]), (43, [true, true, true, true, false, true])], 6, 2)
def zt_144 : zT := ([(0, .aload_n 0, 0, 0, []), (1, .bipush 13, 0, 13, []), (3, .iaload, 12, 0, []), (4, .istore_n 3, 3, 0, []), (5, .iload_n 3, 3, 0, []), (6, .ifCond .le 82, 88, 0, []), (9, .aload_n 0, 0, 0, []), (10, .bipush 11, 0, 11, []), (12, .iconst 3, 0, 3, []), (13, .iload_n 3, 3, 0, []), (14, .imul, 0, 0, []), (15, .iadd, 0, 0, []), (16, .iaload, 12, 0, []), (17, .iload_n 1, 1, 0, []), (18, .if_icmp .gt 27, 45, 0, []), (21, .aload_n 0, 0, 0, []), (22, .bipush 11, 0, 11, []), (24, .iconst 3, 0, 3, []), (25, .iload_n 3, 3, 0, []), (26, .imul, 0, 0, []), (27, .iadd, 0, 0, []), (28, .iaload, 12, 0, []), (29, .iload_n 1, 1, 0, []), (30, .if_icmp .ne 58, 88, 0, []), (33, .aload_n 0, 0, 0, []), (34, .bipush 12, 0, 12, []), (36, .iconst 3, 0, 3, []), (37, .iload_n 3, 3, 0, []), (38, .imul, 0, 0, []), (39, .iadd, 0, 0, []), (40, .iaload, 12, 0, []), (41, .iload_n 2, 2, 0, []), (42, .if_icmp .ge 46, 88, 0, []), (45, .iconst 0, 0, 0, []), (46, .istore 4, 4, 0, []), (48, .iload 4, 4, 0, []), (50, .iconst 3, 0, 3, []), (51, .if_icmp .ge 31, 82, 0, []), (54, .aload_n 0, 0, 0, []), (55, .bipush 14, 0, 14, []), (57, .iconst 3, 0, 3, []), (58, .iload_n 3, 3, 0, []), (59, .imul, 0, 0, []), (60, .iadd, 0, 0, []), (61, .iload 4, 4, 0, []), (63, .iadd, 0, 0, []), (64, .aload_n 0, 0, 0, []), (65, .bipush 11, 0, 11, []), (67, .iconst 3, 0, 3, []), (68, .iload_n 3, 3, 0, []), (69, .imul, 0, 0, []), (70, .iadd, 0, 0, []), (71, .iload 4, 4, 0, []), (73, .iadd, 0, 0, []), (74, .iaload, 12, 0, []), (75, .iastore, 12, 0, []), (76, .iinc 4 1, 4, 1, []), (79, .goto (-31), 48, 0, []), (82, .iinc 3 (-1), 3, (-1), []), (85, .goto (-80), 5, 0, []), (88, .aload_n 0, 0, 0, []), (89, .bipush 14, 0, 14, []), (91, .iconst 3, 0, 3, []), (92, .iload_n 3, 3, 0, []), (93, .imul, 0, 0, []), (94, .iadd, 0, 0, []), (95, .iload_n 1, 1, 0, []), (96, .iastore, 12, 0, []), (97, .aload_n 0, 0, 0, []), (98, .bipush 15, 0, 15, []), (100, .iconst 3, 0, 3, []), (101, .iload_n 3, 3, 0, []), (102, .imul, 0, 0, []), (103, .iadd, 0, 0, []), (104, .iload_n 2, 2, 0, []), (105, .iastore, 12, 0, []), (106, .aload_n 0, 0, 0, []), (107, .bipush 16, 0, 16, []), (109, .iconst 3, 0, 3, []), (110, .iload_n 3, 3, 0, []), (111, .imul, 0, 0, []), (112, .iadd, 0, 0, []), (113, .iconst 0, 0, 0, []), (114, .iastore, 12, 0, []), (115, .aload_n 0, 0, 0, []), (116, .bipush 13, 0, 13, []), (118, .dup2, 0, 0, []), (119, .iaload, 12, 0, []), (120, .iconst 1, 0, 1, []), (121, .iadd, 0, 0, []), (122, .iastore, 12, 0, []), (123, .iload_n 3, 3, 0, []), (124, .ireturn, 0, 0, [])], [(5, [true, true, true, true, false]), (48, [true, true, true, true, true]), (88, [true, true, true, true, false])], 5, 1)
def zt_145 : zT := ([(0, .iconst 0, 0, 0, []), (1, .istore 5, 5, 0, []), (3, .iload 5, 5, 0, []), (5, .bipush 60, 0, 60, []), (7, .if_icmp .ge 14, 21, 0, []), (10, .aload_n 1, 1, 0, []), (11, .iload 5, 5, 0, []), (13, .lconst 0, 0, 0, []), (14, .lastore, 0, 0, []), (15, .iinc 5 1, 5, 1, []), (18, .goto (-15), 3, 0, []), (21, .iconst 0, 0, 0, []), (22, .istore 5, 5, 0, []), (24, .iload 5, 5, 0, []), (26, .bipush 40, 0, 40, []), (28, .if_icmp .ge 14, 42, 0, []), (31, .aload_n 2, 2, 0, []), (32, .iload 5, 5, 0, []), (34, .iconst 0, 0, 0, []), (35, .iastore, 12, 0, []), (36, .iinc 5 1, 5, 1, []), (39, .goto (-15), 24, 0, []), (42, .aload_n 2, 2, 0, []), (43, .bipush 12, 0, 12, []), (45, .iconst 1, 0, 1, []), (46, .aload_n 3, 3, 0, []), (47, .iload 4, 4, 0, []), (49, .invokestatic 23, 139, 0, [(2, 1)]), (52, .bipush 7, 0, 7, []), (54, .invokestatic 9, 138, 0, [(2, 1)]), (57, .iadd, 0, 0, []), (58, .iastore, 12, 0, []), (59, .iconst (-1), 0, (-1), []), (60, .istore 5, 5, 0, []), (62, .iconst 1, 0, 1, []), (63, .istore 6, 6, 0, []), (65, .iconst 0, 0, 0, []), (66, .istore 7, 7, 0, []), (68, .iload 7, 7, 0, []), (70, .aload_n 2, 2, 0, []), (71, .bipush 12, 0, 12, []), (73, .iaload, 12, 0, []), (74, .if_icmp .ge 320, 394, 0, []), (77, .aload_n 3, 3, 0, []), (78, .iload 4, 4, 0, []), (80, .iconst 1, 0, 1, []), (81, .iadd, 0, 0, []), (82, .iload 7, 7, 0, []), (84, .iadd, 0, 0, []), (85, .invokestatic 23, 139, 0, [(2, 1)]), (88, .istore 8, 8, 0, []), (90, .iload 7, 7, 0, []), (92, .ifCond .le 24, 116, 0, []), (95, .iload 6, 6, 0, []), (97, .ifCond .eq 16, 113, 0, []), (100, .aload_n 0, 0, 0, []), (101, .bipush 10, 0, 10, []), (103, .invokevirtual 27, 99, 10, [(2, 1)]), (106, .ifCond .le 7, 113, 0, []), (109, .iconst 1, 0, 1, []), (110, .goto 4, 114, 0, []), (113, .iconst 0, 0, 0, []), (114, .istore 6, 6, 0, []), (116, .iload 5, 5, 0, []), (118, .ifCond .ge 48, 166, 0, []), (121, .iload 8, 8, 0, []), (123, .iconst 3, 0, 3, []), (124, .invokestatic 9, 138, 0, [(2, 1)]), (127, .ifCond .ne 39, 166, 0, []), (130, .iload 7, 7, 0, []), (132, .iconst 1, 0, 1, []), (133, .iadd, 0, 0, []), (134, .aload_n 2, 2, 0, []), (135, .bipush 12, 0, 12, []), (137, .iaload, 12, 0, []), (138, .if_icmp .ge 28, 166, 0, []), (141, .iload 7, 7, 0, []), (143, .istore 5, 5, 0, []), (145, .iload 6, 6, 0, []), (147, .ifCond .eq 16, 163, 0, []), (150, .aload_n 0, 0, 0, []), (151, .bipush 91, 0, 91, []), (153, .invokevirtual 27, 99, 10, [(2, 1)]), (156, .ifCond .le 7, 163, 0, []), (159, .iconst 1, 0, 1, []), (160, .goto 4, 164, 0, []), (163, .iconst 0, 0, 0, []), (164, .istore 6, 6, 0, []), (166, .aload_n 2, 2, 0, []), (167, .iload 7, 7, 0, []), (169, .iload 8, 8, 0, []), (171, .iconst 2, 0, 2, []), (172, .ishr, 0, 0, []), (173, .iload 8, 8, 0, []), (175, .bipush 6, 0, 6, []), (177, .ishr, 0, 0, []), (178, .iconst 3, 0, 3, []), (179, .invokestatic 9, 138, 0, [(2, 1)]), (182, .ifCond .ne 8, 190, 0, []), (185, .bipush 29, 0, 29, []), (187, .goto 5, 192, 0, []), (190, .bipush 15, 0, 15, []), (192, .invokestatic 9, 138, 0, [(2, 1)]), (195, .iastore, 12, 0, []), (196, .iload 8, 8, 0, []), (198, .bipush 7, 0, 7, []), (200, .ishr, 0, 0, []), (201, .iconst 5, 0, 5, []), (202, .invokestatic 9, 138, 0, [(2, 1)]), (205, .istore 9, 9, 0, []), (207, .iconst 0, 0, 0, []), (208, .istore 10, 10, 0, []), (210, .iload 10, 10, 0, []), (212, .aload_n 2, 2, 0, []), (213, .iload 7, 7, 0, []), (215, .iaload, 12, 0, []), (216, .if_icmp .ge 77, 293, 0, []), (219, .iload 10, 10, 0, []), (221, .iload 9, 9, 0, []), (223, .iconst 1, 0, 1, []), (224, .isub, 0, 0, []), (225, .if_icmp .ge 8, 233, 0, []), (228, .bipush 32, 0, 32, []), (230, .goto 24, 254, 0, []), (233, .aload_n 3, 3, 0, []), (234, .iload 4, 4, 0, []), (236, .bipush 8, 0, 8, []), (238, .iadd, 0, 0, []), (239, .bipush 15, 0, 15, []), (241, .iload 7, 7, 0, []), (243, .imul, 0, 0, []), (244, .iadd, 0, 0, []), (245, .iload 10, 10, 0, []), (247, .iadd, 0, 0, []), (248, .invokestatic 23, 139, 0, [(2, 1)]), (251, .invokestatic 33, 140, 0, [(1, 1)]), (254, .istore 11, 11, 0, []), (256, .aload_n 1, 1, 0, []), (257, .iload 7, 7, 0, []), (259, .iload 10, 10, 0, []), (261, .iload 11, 11, 0, []), (263, .invokestatic 36, 141, 0, [(4, 0)]), (266, .iload 6, 6, 0, []), (268, .ifCond .eq 16, 284, 0, []), (271, .aload_n 0, 0, 0, []), (272, .iload 11, 11, 0, []), (274, .invokevirtual 27, 99, 10, [(2, 1)]), (277, .ifCond .le 7, 284, 0, []), (280, .iconst 1, 0, 1, []), (281, .goto 4, 285, 0, []), (284, .iconst 0, 0, 0, []), (285, .istore 6, 6, 0, []), (287, .iinc 10 1, 10, 1, []), (290, .goto (-80), 210, 0, []), (293, .iload 5, 5, 0, []), (295, .ifCond .lt 93, 388, 0, []), (298, .iload 5, 5, 0, []), (300, .iload 7, 7, 0, []), (302, .if_icmp .ge 86, 388, 0, []), (305, .iload 7, 7, 0, []), (307, .iconst 1, 0, 1, []), (308, .iadd, 0, 0, []), (309, .aload_n 2, 2, 0, []), (310, .bipush 12, 0, 12, []), (312, .iaload, 12, 0, []), (313, .if_icmp .eq 15, 328, 0, []), (316, .iload 8, 8, 0, []), (318, .bipush 9, 0, 9, []), (320, .ishr, 0, 0, []), (321, .iconst 2, 0, 2, []), (322, .invokestatic 9, 138, 0, [(2, 1)]), (325, .ifCond .ne 63, 388, 0, []), (328, .aload_n 2, 2, 0, []), (329, .aload_n 2, 2, 0, []), (330, .bipush 13, 0, 13, []), (332, .iaload, 12, 0, []), (333, .iload 5, 5, 0, []), (335, .iload 7, 7, 0, []), (337, .invokestatic 40, 143, 0, [(4, 2)]), (340, .ifCond .ne 7, 347, 0, []), (343, .iconst 1, 0, 1, []), (344, .goto 4, 348, 0, []), (347, .iconst 0, 0, 0, []), (348, .istore 10, 10, 0, []), (350, .iload 10, 10, 0, []), (352, .ifCond .eq 36, 388, 0, []), (355, .aload_n 2, 2, 0, []), (356, .iload 5, 5, 0, []), (358, .iload 7, 7, 0, []), (360, .invokestatic 44, 144, 0, [(3, 1)]), (363, .pop, 0, 0, []), (364, .iconst (-1), 0, (-1), []), (365, .istore 5, 5, 0, []), (367, .iload 6, 6, 0, []), (369, .ifCond .eq 16, 385, 0, []), (372, .aload_n 0, 0, 0, []), (373, .bipush 93, 0, 93, []), (375, .invokevirtual 27, 99, 10, [(2, 1)]), (378, .ifCond .le 7, 385, 0, []), (381, .iconst 1, 0, 1, []), (382, .goto 4, 386, 0, []), (385, .iconst 0, 0, 0, []), (386, .istore 6, 6, 0, []), (388, .iinc 7 1, 7, 1, []), (391, .goto (-323), 68, 0, []), (394, .iload 6, 6, 0, []), (396, .ifCond .eq 34, 430, 0, []), (399, .aload_n 0, 0, 0, []), (400, .invokevirtual 48, 100, 10, [(1, 1)]), (403, .aload_n 2, 2, 0, []), (404, .bipush 12, 0, 12, []), (406, .iaload, 12, 0, []), (407, .if_icmp .ne 23, 430, 0, []), (410, .aload_n 0, 0, 0, []), (411, .invokevirtual 52, 101, 10, [(1, 1)]), (414, .ifCond .ne 16, 430, 0, []), (417, .aload_n 0, 0, 0, []), (418, .bipush 12, 0, 12, []), (420, .invokevirtual 55, 102, 10, [(2, 1)]), (423, .ifCond .ne 7, 430, 0, []), (426, .iconst 1, 0, 1, []), (427, .goto 4, 431, 0, []), (430, .iconst 0, 0, 0, []), (431, .ireturn, 0, 0, [])], [(3, [true, true, true, true, true, true, false, false, false, false, false, false]), (24, [true, true, true, true, true, true, false, false, false, false, false, false]), (68, [true, true, true, true, true, true, true, true, false, false, false, false]), (116, [true, true, true, true, true, true, true, true, true, false, false, false]), (166, [true, true, true, true, true, true, true, true, true, false, false, false]), (210, [true, true, true, true, true, true, true, true, true, true, true, false]), (348, [true, true, true, true, true, true, true, true, false, false, false, false])], 12, 2)
def zt_146 : zT := ([(0, .bipush 7, 0, 7, []), (2, .istore_n 1, 1, 0, []), (3, .iconst 0, 0, 0, []), (4, .istore_n 2, 2, 0, []), (5, .iload_n 2, 2, 0, []), (6, .bipush 10, 0, 10, []), (8, .if_icmp .ge 20, 28, 0, []), (11, .bipush 31, 0, 31, []), (13, .iload_n 1, 1, 0, []), (14, .imul, 0, 0, []), (15, .aload_n 0, 0, 0, []), (16, .iload_n 2, 2, 0, []), (17, .invokevirtual 55, 102, 10, [(2, 1)]), (20, .iadd, 0, 0, []), (21, .istore_n 1, 1, 0, []), (22, .iinc 2 1, 2, 1, []), (25, .goto (-20), 5, 0, []), (28, .iconst 0, 0, 0, []), (29, .istore_n 2, 2, 0, []), (30, .iload_n 2, 2, 0, []), (31, .aload_n 0, 0, 0, []), (32, .iconst 0, 0, 0, []), (33, .invokevirtual 55, 102, 10, [(2, 1)]), (36, .if_icmp .ge 58, 94, 0, []), (39, .iconst 0, 0, 0, []), (40, .istore_n 3, 3, 0, []), (41, .iload_n 3, 3, 0, []), (42, .aload_n 0, 0, 0, []), (43, .iload_n 2, 2, 0, []), (44, .iconst 0, 0, 0, []), (45, .invokevirtual 62, 104, 10, [(3, 1)]), (48, .if_icmp .gt 40, 88, 0, []), (51, .bipush 31, 0, 31, []), (53, .iload_n 1, 1, 0, []), (54, .imul, 0, 0, []), (55, .aload_n 0, 0, 0, []), (56, .iload_n 2, 2, 0, []), (57, .iload_n 3, 3, 0, []), (58, .invokevirtual 65, 103, 10, [(3, 1)]), (61, .iadd, 0, 0, []), (62, .bipush 77, 0, 77, []), (64, .aload_n 0, 0, 0, []), (65, .iload_n 2, 2, 0, []), (66, .iload_n 3, 3, 0, []), (67, .iconst 0, 0, 0, []), (68, .invokevirtual 78, 107, 10, [(4, 1)]), (71, .imul, 0, 0, []), (72, .iadd, 0, 0, []), (73, .aload_n 0, 0, 0, []), (74, .iload_n 2, 2, 0, []), (75, .iload_n 3, 3, 0, []), (76, .iconst 1, 0, 1, []), (77, .invokevirtual 78, 107, 10, [(4, 1)]), (80, .iadd, 0, 0, []), (81, .istore_n 1, 1, 0, []), (82, .iinc 3 1, 3, 1, []), (85, .goto (-44), 41, 0, []), (88, .iinc 2 1, 2, 1, []), (91, .goto (-61), 30, 0, []), (94, .iconst 0, 0, 0, []), (95, .istore_n 2, 2, 0, []), (96, .iload_n 2, 2, 0, []), (97, .aload_n 0, 0, 0, []), (98, .iconst 4, 0, 4, []), (99, .invokevirtual 55, 102, 10, [(2, 1)]), (102, .if_icmp .ge 41, 143, 0, []), (105, .bipush 31, 0, 31, []), (107, .bipush 31, 0, 31, []), (109, .bipush 31, 0, 31, []), (111, .iload_n 1, 1, 0, []), (112, .imul, 0, 0, []), (113, .aload_n 0, 0, 0, []), (114, .iload_n 2, 2, 0, []), (115, .iconst 0, 0, 0, []), (116, .invokevirtual 72, 109, 10, [(3, 1)]), (119, .iadd, 0, 0, []), (120, .imul, 0, 0, []), (121, .aload_n 0, 0, 0, []), (122, .iload_n 2, 2, 0, []), (123, .iconst 1, 0, 1, []), (124, .invokevirtual 72, 109, 10, [(3, 1)]), (127, .iadd, 0, 0, []), (128, .imul, 0, 0, []), (129, .aload_n 0, 0, 0, []), (130, .iload_n 2, 2, 0, []), (131, .iconst 2, 0, 2, []), (132, .invokevirtual 72, 109, 10, [(3, 1)]), (135, .iadd, 0, 0, []), (136, .istore_n 1, 1, 0, []), (137, .iinc 2 1, 2, 1, []), (140, .goto (-44), 96, 0, []), (143, .bipush 31, 0, 31, []), (145, .bipush 31, 0, 31, []), (147, .iload_n 1, 1, 0, []), (148, .imul, 0, 0, []), (149, .aload_n 0, 0, 0, []), (150, .iconst 0, 0, 0, []), (151, .invokevirtual 75, 110, 10, [(2, 1)]), (154, .iadd, 0, 0, []), (155, .imul, 0, 0, []), (156, .aload_n 0, 0, 0, []), (157, .iconst 1, 0, 1, []), (158, .invokevirtual 75, 110, 10, [(2, 1)]), (161, .iadd, 0, 0, []), (162, .ireturn, 0, 0, [])], [(5, [true, true, true, false]), (30, [true, true, true, false]), (41, [true, true, true, true]), (96, [true, true, true, false])], 4, 1)
def zt_147 : zT := ([(0, .aload_n 0, 0, 0, []), (1, .iconst 2, 0, 2, []), (2, .invokevirtual 55, 102, 10, [(2, 1)]), (5, .istore_n 1, 1, 0, []), (6, .iconst (-1), 0, (-1), []), (7, .istore_n 2, 2, 0, []), (8, .iconst 0, 0, 0, []), (9, .istore_n 3, 3, 0, []), (10, .iconst 0, 0, 0, []), (11, .istore 4, 4, 0, []), (13, .iload 4, 4, 0, []), (15, .iload_n 1, 1, 0, []), (16, .if_icmp .ge 315, 331, 0, []), (19, .aload_n 0, 0, 0, []), (20, .iload 4, 4, 0, []), (22, .iconst 0, 0, 0, []), (23, .invokevirtual 82, 105, 10, [(3, 1)]), (26, .istore 5, 5, 0, []), (28, .iload 5, 5, 0, []), (30, .iload_n 2, 2, 0, []), (31, .if_icmp .ne 17, 48, 0, []), (34, .aload_n 0, 0, 0, []), (35, .iload 4, 4, 0, []), (37, .iconst 1, 0, 1, []), (38, .invokevirtual 82, 105, 10, [(3, 1)]), (41, .iload_n 3, 3, 0, []), (42, .if_icmp .eq 38, 80, 0, []), (45, .goto 33, 78, 0, []), (48, .iload_n 2, 2, 0, []), (49, .ifCond .lt 13, 62, 0, []), (52, .iload_n 3, 3, 0, []), (53, .aload_n 0, 0, 0, []), (54, .iload_n 2, 2, 0, []), (55, .iconst 0, 0, 0, []), (56, .invokevirtual 62, 104, 10, [(3, 1)]), (59, .if_icmp .ne 19, 78, 0, []), (62, .iload 5, 5, 0, []), (64, .iload_n 2, 2, 0, []), (65, .if_icmp .le 13, 78, 0, []), (68, .aload_n 0, 0, 0, []), (69, .iload 4, 4, 0, []), (71, .iconst 1, 0, 1, []), (72, .invokevirtual 82, 105, 10, [(3, 1)]), (75, .ifCond .eq 5, 80, 0, []), (78, .iconst 0, 0, 0, []), (79, .ireturn, 0, 0, []), (80, .iload 5, 5, 0, []), (82, .iload_n 2, 2, 0, []), (83, .if_icmp .ne 57, 140, 0, []), (86, .aload_n 0, 0, 0, []), (87, .iload 4, 4, 0, []), (89, .iconst 3, 0, 3, []), (90, .invokevirtual 82, 105, 10, [(3, 1)]), (93, .aload_n 0, 0, 0, []), (94, .iload 5, 5, 0, []), (96, .iconst 3, 0, 3, []), (97, .invokevirtual 62, 104, 10, [(3, 1)]), (100, .if_icmp .ne 38, 138, 0, []), (103, .aload_n 0, 0, 0, []), (104, .iload 4, 4, 0, []), (106, .iconst 2, 0, 2, []), (107, .invokevirtual 82, 105, 10, [(3, 1)]), (110, .aload_n 0, 0, 0, []), (111, .iload 4, 4, 0, []), (113, .iconst 1, 0, 1, []), (114, .invokevirtual 82, 105, 10, [(3, 1)]), (117, .if_icmp .le 21, 138, 0, []), (120, .aload_n 0, 0, 0, []), (121, .iload 5, 5, 0, []), (123, .aload_n 0, 0, 0, []), (124, .iload 4, 4, 0, []), (126, .iconst 1, 0, 1, []), (127, .invokevirtual 82, 105, 10, [(3, 1)]), (130, .iconst 2, 0, 2, []), (131, .invokevirtual 78, 107, 10, [(4, 1)]), (134, .iconst 1, 0, 1, []), (135, .if_icmp .eq 5, 140, 0, []), (138, .iconst 0, 0, 0, []), (139, .ireturn, 0, 0, []), (140, .iload_n 2, 2, 0, []), (141, .iconst 1, 0, 1, []), (142, .iadd, 0, 0, []), (143, .istore 6, 6, 0, []), (145, .iload 6, 6, 0, []), (147, .iload 5, 5, 0, []), (149, .if_icmp .ge 23, 172, 0, []), (152, .aload_n 0, 0, 0, []), (153, .iload 6, 6, 0, []), (155, .iconst 2, 0, 2, []), (156, .invokevirtual 62, 104, 10, [(3, 1)]), (159, .bipush (-4), 0, (-4), []), (161, .if_icmp .eq 5, 166, 0, []), (164, .iconst 0, 0, 0, []), (165, .ireturn, 0, 0, []), (166, .iinc 6 1, 6, 1, []), (169, .goto (-24), 145, 0, []), (172, .iload 5, 5, 0, []), (174, .istore_n 2, 2, 0, []), (175, .aload_n 0, 0, 0, []), (176, .iload 4, 4, 0, []), (178, .iconst 2, 0, 2, []), (179, .invokevirtual 82, 105, 10, [(3, 1)]), (182, .istore_n 3, 3, 0, []), (183, .aload_n 0, 0, 0, []), (184, .bipush 8, 0, 8, []), (186, .invokevirtual 55, 102, 10, [(2, 1)]), (189, .ifCond .le 21, 210, 0, []), (192, .aload_n 0, 0, 0, []), (193, .iload 4, 4, 0, []), (195, .iconst 4, 0, 4, []), (196, .invokevirtual 82, 105, 10, [(3, 1)]), (199, .aload_n 0, 0, 0, []), (200, .bipush 6, 0, 6, []), (202, .invokevirtual 55, 102, 10, [(2, 1)]), (205, .if_icmp .le 5, 210, 0, []), (208, .iconst 0, 0, 0, []), (209, .ireturn, 0, 0, []), (210, .iconst 0, 0, 0, []), (211, .istore 6, 6, 0, []), (213, .iconst 0, 0, 0, []), (214, .istore 7, 7, 0, []), (216, .iload 7, 7, 0, []), (218, .aload_n 0, 0, 0, []), (219, .iload 4, 4, 0, []), (221, .iconst 4, 0, 4, []), (222, .invokevirtual 82, 105, 10, [(3, 1)]), (225, .if_icmp .ge 30, 255, 0, []), (228, .iload 6, 6, 0, []), (230, .aload_n 0, 0, 0, []), (231, .iload 4, 4, 0, []), (233, .iload 7, 7, 0, []), (235, .invokevirtual 85, 106, 10, [(3, 1)]), (238, .ifCond .lt 7, 245, 0, []), (241, .iconst 1, 0, 1, []), (242, .goto 4, 246, 0, []), (245, .iconst 0, 0, 0, []), (246, .iadd, 0, 0, []), (247, .istore 6, 6, 0, []), (249, .iinc 7 1, 7, 1, []), (252, .goto (-36), 216, 0, []), (255, .iload 6, 6, 0, []), (257, .aload_n 0, 0, 0, []), (258, .iload 4, 4, 0, []), (260, .iconst 4, 0, 4, []), (261, .invokevirtual 82, 105, 10, [(3, 1)]), (264, .aload_n 0, 0, 0, []), (265, .iload 4, 4, 0, []), (267, .iconst 3, 0, 3, []), (268, .invokevirtual 82, 105, 10, [(3, 1)]), (271, .isub, 0, 0, []), (272, .if_icmp .ne 51, 323, 0, []), (275, .aload_n 0, 0, 0, []), (276, .iload 4, 4, 0, []), (278, .aload_n 0, 0, 0, []), (279, .iload 4, 4, 0, []), (281, .iconst 4, 0, 4, []), (282, .invokevirtual 82, 105, 10, [(3, 1)]), (285, .invokevirtual 85, 106, 10, [(3, 1)]), (288, .bipush (-4), 0, (-4), []), (290, .if_icmp .ne 33, 323, 0, []), (293, .aload_n 0, 0, 0, []), (294, .iload 4, 4, 0, []), (296, .iconst 3, 0, 3, []), (297, .invokevirtual 82, 105, 10, [(3, 1)]), (300, .ifCond .le 25, 325, 0, []), (303, .aload_n 0, 0, 0, []), (304, .iload 4, 4, 0, []), (306, .aload_n 0, 0, 0, []), (307, .iload 4, 4, 0, []), (309, .iconst 3, 0, 3, []), (310, .invokevirtual 82, 105, 10, [(3, 1)]), (313, .iconst 1, 0, 1, []), (314, .isub, 0, 0, []), (315, .invokevirtual 85, 106, 10, [(3, 1)]), (318, .bipush (-4), 0, (-4), []), (320, .if_icmp .eq 5, 325, 0, []), (323, .iconst 0, 0, 0, []), (324, .ireturn, 0, 0, []), (325, .iinc 4 1, 4, 1, []), (328, .goto (-315), 13, 0, []), (331, .iload_n 3, 3, 0, []), (332, .aload_n 0, 0, 0, []), (333, .iload_n 2, 2, 0, []), (334, .iconst 0, 0, 0, []), (335, .invokevirtual 62, 104, 10, [(3, 1)]), (338, .if_icmp .eq 5, 343, 0, []), (341, .iconst 0, 0, 0, []), (342, .ireturn, 0, 0, []), (343, .iconst 0, 0, 0, []), (344, .istore 4, 4, 0, []), (346, .iload 4, 4, 0, []), (348, .aload_n 0, 0, 0, []), (349, .iconst 0, 0, 0, []), (350, .invokevirtual 55, 102, 10, [(2, 1)]), (353, .if_icmp .ge 161, 514, 0, []), (356, .iconst (-1), 0, (-1), []), (357, .istore 5, 5, 0, []), (359, .iconst 0, 0, 0, []), (360, .istore 6, 6, 0, []), (362, .iload 6, 6, 0, []), (364, .aload_n 0, 0, 0, []), (365, .iload 4, 4, 0, []), (367, .iconst 0, 0, 0, []), (368, .invokevirtual 62, 104, 10, [(3, 1)]), (371, .if_icmp .gt 137, 508, 0, []), (374, .aload_n 0, 0, 0, []), (375, .iload 4, 4, 0, []), (377, .iload 6, 6, 0, []), (379, .iconst 0, 0, 0, []), (380, .invokevirtual 78, 107, 10, [(4, 1)]), (383, .istore 7, 7, 0, []), (385, .iload 7, 7, 0, []), (387, .ifCond .lt 115, 502, 0, []), (390, .aload_n 0, 0, 0, []), (391, .iload 4, 4, 0, []), (393, .iload 6, 6, 0, []), (395, .iconst 2, 0, 2, []), (396, .invokevirtual 78, 107, 10, [(4, 1)]), (399, .ifCond .ne 6, 405, 0, []), (402, .goto 100, 502, 0, []), (405, .sipush 4096, 0, 4096, []), (408, .iload 7, 7, 0, []), (410, .imul, 0, 0, []), (411, .aload_n 0, 0, 0, []), (412, .iload 4, 4, 0, []), (414, .iload 6, 6, 0, []), (416, .iconst 1, 0, 1, []), (417, .invokevirtual 78, 107, 10, [(4, 1)]), (420, .iadd, 0, 0, []), (421, .istore 8, 8, 0, []), (423, .iload 8, 8, 0, []), (425, .iload 5, 5, 0, []), (427, .if_icmp .le 35, 462, 0, []), (430, .aload_n 0, 0, 0, []), (431, .iload 7, 7, 0, []), (433, .aload_n 0, 0, 0, []), (434, .iload 4, 4, 0, []), (436, .iload 6, 6, 0, []), (438, .iconst 1, 0, 1, []), (439, .invokevirtual 78, 107, 10, [(4, 1)]), (442, .invokevirtual 87, 108, 10, [(3, 1)]), (445, .iload 6, 6, 0, []), (447, .if_icmp .ne 15, 462, 0, []), (450, .aload_n 0, 0, 0, []), (451, .iload 7, 7, 0, []), (453, .iconst 0, 0, 0, []), (454, .invokevirtual 82, 105, 10, [(3, 1)]), (457, .iload 4, 4, 0, []), (459, .if_icmp .eq 5, 464, 0, []), (462, .iconst 0, 0, 0, []), (463, .ireturn, 0, 0, []), (464, .iload 8, 8, 0, []), (466, .istore 5, 5, 0, []), (468, .iload 6, 6, 0, []), (470, .aload_n 0, 0, 0, []), (471, .iload 4, 4, 0, []), (473, .iconst 0, 0, 0, []), (474, .invokevirtual 62, 104, 10, [(3, 1)]), (477, .if_icmp .ge 25, 502, 0, []), (480, .aload_n 0, 0, 0, []), (481, .iload 7, 7, 0, []), (483, .aload_n 0, 0, 0, []), (484, .iload 4, 4, 0, []), (486, .iload 6, 6, 0, []), (488, .iconst 1, 0, 1, []), (489, .invokevirtual 78, 107, 10, [(4, 1)]), (492, .invokevirtual 85, 106, 10, [(3, 1)]), (495, .iload 6, 6, 0, []), (497, .if_icmp .eq 5, 502, 0, []), (500, .iconst 0, 0, 0, []), (501, .ireturn, 0, 0, []), (502, .iinc 6 1, 6, 1, []), (505, .goto (-143), 362, 0, []), (508, .iinc 4 1, 4, 1, []), (511, .goto (-165), 346, 0, []), (514, .aload_n 0, 0, 0, []), (515, .aload_n 0, 0, 0, []), (516, .iconst 0, 0, 0, []), (517, .invokevirtual 75, 110, 10, [(2, 1)]), (520, .aload_n 0, 0, 0, []), (521, .iconst 1, 0, 1, []), (522, .invokevirtual 75, 110, 10, [(2, 1)]), (525, .iconst 2, 0, 2, []), (526, .invokevirtual 78, 107, 10, [(4, 1)]), (529, .iconst 1, 0, 1, []), (530, .if_icmp .ne 15, 545, 0, []), (533, .aload_n 0, 0, 0, []), (534, .iconst 3, 0, 3, []), (535, .invokevirtual 75, 110, 10, [(2, 1)]), (538, .ifCond .lt 7, 545, 0, []), (541, .iconst 1, 0, 1, []), (542, .goto 4, 546, 0, []), (545, .iconst 0, 0, 0, []), (546, .ireturn, 0, 0, [])], [(13, [true, true, true, true, true, false, false, false, false]), (80, [true, true, true, false, true, true, false, false, false]), (145, [true, true, false, false, true, true, true, false, false]), (216, [true, true, true, true, true, false, true, true, false]), (346, [true, false, false, false, true, false, false, false, false]), (362, [true, false, false, false, true, true, true, false, false])], 9, 2)
def zt_148 : zT := ([(0, .iconst 0, 0, 0, []), (1, .istore_n 1, 1, 0, []), (2, .iload_n 1, 1, 0, []), (3, .aload_n 0, 0, 0, []), (4, .iconst 4, 0, 4, []), (5, .invokevirtual 55, 102, 10, [(2, 1)]), (8, .if_icmp .ge 136, 144, 0, []), (11, .aload_n 0, 0, 0, []), (12, .iload_n 1, 1, 0, []), (13, .iconst 0, 0, 0, []), (14, .invokevirtual 72, 109, 10, [(3, 1)]), (17, .aload_n 0, 0, 0, []), (18, .iload_n 1, 1, 0, []), (19, .iconst 1, 0, 1, []), (20, .invokevirtual 72, 109, 10, [(3, 1)]), (23, .if_icmp .ge 17, 40, 0, []), (26, .aload_n 0, 0, 0, []), (27, .iload_n 1, 1, 0, []), (28, .iconst 1, 0, 1, []), (29, .invokevirtual 72, 109, 10, [(3, 1)]), (32, .aload_n 0, 0, 0, []), (33, .iconst 0, 0, 0, []), (34, .invokevirtual 55, 102, 10, [(2, 1)]), (37, .if_icmp .lt 5, 42, 0, []), (40, .iconst 0, 0, 0, []), (41, .ireturn, 0, 0, []), (42, .iload_n 1, 1, 0, []), (43, .iconst 1, 0, 1, []), (44, .iadd, 0, 0, []), (45, .istore_n 2, 2, 0, []), (46, .iload_n 2, 2, 0, []), (47, .aload_n 0, 0, 0, []), (48, .iconst 4, 0, 4, []), (49, .invokevirtual 55, 102, 10, [(2, 1)]), (52, .if_icmp .ge 86, 138, 0, []), (55, .aload_n 0, 0, 0, []), (56, .iload_n 1, 1, 0, []), (57, .iconst 0, 0, 0, []), (58, .invokevirtual 72, 109, 10, [(3, 1)]), (61, .aload_n 0, 0, 0, []), (62, .iload_n 2, 2, 0, []), (63, .iconst 0, 0, 0, []), (64, .invokevirtual 72, 109, 10, [(3, 1)]), (67, .if_icmp .gt 63, 130, 0, []), (70, .aload_n 0, 0, 0, []), (71, .iload_n 1, 1, 0, []), (72, .iconst 0, 0, 0, []), (73, .invokevirtual 72, 109, 10, [(3, 1)]), (76, .aload_n 0, 0, 0, []), (77, .iload_n 2, 2, 0, []), (78, .iconst 0, 0, 0, []), (79, .invokevirtual 72, 109, 10, [(3, 1)]), (82, .if_icmp .ne 18, 100, 0, []), (85, .aload_n 0, 0, 0, []), (86, .iload_n 1, 1, 0, []), (87, .iconst 1, 0, 1, []), (88, .invokevirtual 72, 109, 10, [(3, 1)]), (91, .aload_n 0, 0, 0, []), (92, .iload_n 2, 2, 0, []), (93, .iconst 1, 0, 1, []), (94, .invokevirtual 72, 109, 10, [(3, 1)]), (97, .if_icmp .le 33, 130, 0, []), (100, .aload_n 0, 0, 0, []), (101, .iload_n 1, 1, 0, []), (102, .iconst 0, 0, 0, []), (103, .invokevirtual 72, 109, 10, [(3, 1)]), (106, .aload_n 0, 0, 0, []), (107, .iload_n 1, 1, 0, []), (108, .iconst 1, 0, 1, []), (109, .invokevirtual 72, 109, 10, [(3, 1)]), (112, .aload_n 0, 0, 0, []), (113, .iload_n 2, 2, 0, []), (114, .iconst 0, 0, 0, []), (115, .invokevirtual 72, 109, 10, [(3, 1)]), (118, .aload_n 0, 0, 0, []), (119, .iload_n 2, 2, 0, []), (120, .iconst 1, 0, 1, []), (121, .invokevirtual 72, 109, 10, [(3, 1)]), (124, .invokestatic 19, 142, 0, [(4, 2)]), (127, .ifCond .eq 5, 132, 0, []), (130, .iconst 0, 0, 0, []), (131, .ireturn, 0, 0, []), (132, .iinc 2 1, 2, 1, []), (135, .goto (-89), 46, 0, []), (138, .iinc 1 1, 1, 1, []), (141, .goto (-139), 2, 0, []), (144, .iconst 1, 0, 1, []), (145, .ireturn, 0, 0, [])], [(2, [true, true, false]), (46, [true, true, true])], 3, 2)
def zt_149 : zT := ([(0, .aload_n 0, 0, 0, []), (1, .bipush 10, 0, 10, []), (3, .invokevirtual 55, 102, 10, [(2, 1)]), (6, .istore_n 2, 2, 0, []), (7, .aload_n 0, 0, 0, []), (8, .iconst 1, 0, 1, []), (9, .invokevirtual 55, 102, 10, [(2, 1)]), (12, .istore_n 3, 3, 0, []), (13, .aload_n 0, 0, 0, []), (14, .iconst 0, 0, 0, []), (15, .invokevirtual 55, 102, 10, [(2, 1)]), (18, .istore 4, 4, 0, []), (20, .iload_n 1, 1, 0, []), (21, .bipush 12, 0, 12, []), (23, .invokestatic 9, 138, 0, [(2, 1)]), (26, .tableswitch 237 0 10 #[58, 58, 58, 77, 90, 103, 117, 134, 152, 177, 201], 263, 58, [(0, 84), (1, 84), (2, 84), (3, 103), (4, 116), (5, 129), (6, 143), (7, 160), (8, 178), (9, 203), (10, 227)]), (84, .aload_n 0, 0, 0, []), (85, .iload_n 1, 1, 0, []), (86, .iconst 4, 0, 4, []), (87, .ishr, 0, 0, []), (88, .invokestatic 33, 140, 0, [(1, 1)]), (91, .invokevirtual 90, 114, 10, [(2, 1)]), (94, .ifCond .le 7, 101, 0, []), (97, .iconst 1, 0, 1, []), (98, .goto 4, 102, 0, []), (101, .iconst 0, 0, 0, []), (102, .ireturn, 0, 0, []), (103, .aload_n 0, 0, 0, []), (104, .invokevirtual 93, 115, 10, [(1, 1)]), (107, .ifCond .lt 7, 114, 0, []), (110, .iconst 1, 0, 1, []), (111, .goto 4, 115, 0, []), (114, .iconst 0, 0, 0, []), (115, .ireturn, 0, 0, []), (116, .aload_n 0, 0, 0, []), (117, .invokevirtual 96, 116, 10, [(1, 1)]), (120, .ifCond .le 7, 127, 0, []), (123, .iconst 1, 0, 1, []), (124, .goto 4, 128, 0, []), (127, .iconst 0, 0, 0, []), (128, .ireturn, 0, 0, []), (129, .aload_n 0, 0, 0, []), (130, .iload_n 1, 1, 0, []), (131, .iconst 4, 0, 4, []), (132, .ishr, 0, 0, []), (133, .iconst 2, 0, 2, []), (134, .invokestatic 9, 138, 0, [(2, 1)]), (137, .invokevirtual 99, 111, 10, [(2, 1)]), (140, .pop, 0, 0, []), (141, .iconst 0, 0, 0, []), (142, .ireturn, 0, 0, []), (143, .aload_n 0, 0, 0, []), (144, .iload_n 1, 1, 0, []), (145, .iconst 4, 0, 4, []), (146, .ishr, 0, 0, []), (147, .bipush 7, 0, 7, []), (149, .invokestatic 9, 138, 0, [(2, 1)]), (152, .iconst 3, 0, 3, []), (153, .isub, 0, 0, []), (154, .invokevirtual 102, 112, 10, [(2, 1)]), (157, .pop, 0, 0, []), (158, .iconst 0, 0, 0, []), (159, .ireturn, 0, 0, []), (160, .aload_n 0, 0, 0, []), (161, .iconst 0, 0, 0, []), (162, .iconst 4, 0, 4, []), (163, .iload_n 1, 1, 0, []), (164, .iconst 4, 0, 4, []), (165, .ishr, 0, 0, []), (166, .bipush 37, 0, 37, []), (168, .invokestatic 9, 138, 0, [(2, 1)]), (171, .iadd, 0, 0, []), (172, .invokevirtual 105, 121, 10, [(3, 1)]), (175, .pop, 0, 0, []), (176, .iconst 0, 0, 0, []), (177, .ireturn, 0, 0, []), (178, .aload_n 0, 0, 0, []), (179, .iconst 1, 0, 1, []), (180, .iload_n 1, 1, 0, []), (181, .iconst 4, 0, 4, []), (182, .ishr, 0, 0, []), (183, .iconst 3, 0, 3, []), (184, .invokestatic 9, 138, 0, [(2, 1)]), (187, .iadd, 0, 0, []), (188, .iload_n 1, 1, 0, []), (189, .bipush 6, 0, 6, []), (191, .ishr, 0, 0, []), (192, .bipush 8, 0, 8, []), (194, .invokestatic 9, 138, 0, [(2, 1)]), (197, .invokevirtual 105, 121, 10, [(3, 1)]), (200, .pop, 0, 0, []), (201, .iconst 0, 0, 0, []), (202, .ireturn, 0, 0, []), (203, .aload_n 0, 0, 0, []), (204, .iload_n 1, 1, 0, []), (205, .iconst 4, 0, 4, []), (206, .ishr, 0, 0, []), (207, .iload 4, 4, 0, []), (209, .invokestatic 9, 138, 0, [(2, 1)]), (212, .iload_n 1, 1, 0, []), (213, .bipush 7, 0, 7, []), (215, .ishr, 0, 0, []), (216, .iload 4, 4, 0, []), (218, .invokestatic 9, 138, 0, [(2, 1)]), (221, .invokevirtual 108, 119, 10, [(3, 1)]), (224, .pop, 0, 0, []), (225, .iconst 0, 0, 0, []), (226, .ireturn, 0, 0, []), (227, .aload_n 0, 0, 0, []), (228, .iload_n 1, 1, 0, []), (229, .iconst 4, 0, 4, []), (230, .ishr, 0, 0, []), (231, .aload_n 0, 0, 0, []), (232, .iconst 4, 0, 4, []), (233, .invokevirtual 55, 102, 10, [(2, 1)]), (236, .iconst 1, 0, 1, []), (237, .iadd, 0, 0, []), (238, .invokestatic 9, 138, 0, [(2, 1)]), (241, .iload_n 1, 1, 0, []), (242, .bipush 8, 0, 8, []), (244, .ishr, 0, 0, []), (245, .iconst 3, 0, 3, []), (246, .invokestatic 9, 138, 0, [(2, 1)]), (249, .ifCond .ne 7, 256, 0, []), (252, .iconst 0, 0, 0, []), (253, .goto 4, 257, 0, []), (256, .iconst 1, 0, 1, []), (257, .invokevirtual 111, 120, 10, [(3, 1)]), (260, .pop, 0, 0, []), (261, .iconst 0, 0, 0, []), (262, .ireturn, 0, 0, []), (263, .aload_n 0, 0, 0, []), (264, .iload_n 1, 1, 0, []), (265, .iconst 4, 0, 4, []), (266, .ishr, 0, 0, []), (267, .iconst 2, 0, 2, []), (268, .invokestatic 9, 138, 0, [(2, 1)]), (271, .invokevirtual 114, 113, 10, [(2, 1)]), (274, .pop, 0, 0, []), (275, .iload_n 2, 2, 0, []), (276, .ifCond .lt 7, 283, 0, []), (279, .iload_n 3, 3, 0, []), (280, .ifCond .ge 7, 287, 0, []), (283, .iconst 1, 0, 1, []), (284, .goto 4, 288, 0, []), (287, .iconst 0, 0, 0, []), (288, .ireturn, 0, 0, [])], [], 5, 2)
def zt_150 : zT := ([(0, .aload_n 0, 0, 0, []), (1, .invokestatic 117, 146, 0, [(1, 1)]), (4, .istore_n 2, 2, 0, []), (5, .aload_n 0, 0, 0, []), (6, .iconst 1, 0, 1, []), (7, .invokevirtual 55, 102, 10, [(2, 1)]), (10, .istore_n 3, 3, 0, []), (11, .aload_n 0, 0, 0, []), (12, .iload_n 1, 1, 0, []), (13, .iconst 5, 0, 5, []), (14, .invokestatic 9, 138, 0, [(2, 1)]), (17, .iconst 1, 0, 1, []), (18, .imul, 0, 0, []), (19, .bipush 12, 0, 12, []), (21, .iload_n 1, 1, 0, []), (22, .iconst 3, 0, 3, []), (23, .ishr, 0, 0, []), (24, .sipush 1000, 0, 1000, []), (27, .invokestatic 9, 138, 0, [(2, 1)]), (30, .imul, 0, 0, []), (31, .iadd, 0, 0, []), (32, .invokestatic 121, 149, 0, [(2, 2)]), (35, .ifCond .ne 5, 40, 0, []), (38, .iconst 1, 0, 1, []), (39, .ireturn, 0, 0, []), (40, .aload_n 0, 0, 0, []), (41, .invokestatic 117, 146, 0, [(1, 1)]), (44, .istore 4, 4, 0, []), (46, .aload_n 0, 0, 0, []), (47, .invokevirtual 125, 117, 10, [(1, 1)]), (50, .ifCond .lt 36, 86, 0, []), (53, .aload_n 0, 0, 0, []), (54, .invokestatic 117, 146, 0, [(1, 1)]), (57, .iload_n 2, 2, 0, []), (58, .if_icmp .ne 28, 86, 0, []), (61, .aload_n 0, 0, 0, []), (62, .iconst 1, 0, 1, []), (63, .invokevirtual 55, 102, 10, [(2, 1)]), (66, .iload_n 3, 3, 0, []), (67, .if_icmp .ne 19, 86, 0, []), (70, .aload_n 0, 0, 0, []), (71, .invokevirtual 128, 118, 10, [(1, 1)]), (74, .ifCond .lt 12, 86, 0, []), (77, .aload_n 0, 0, 0, []), (78, .invokestatic 117, 146, 0, [(1, 1)]), (81, .iload 4, 4, 0, []), (83, .if_icmp .eq 5, 88, 0, []), (86, .iconst 0, 0, 0, []), (87, .ireturn, 0, 0, []), (88, .aload_n 0, 0, 0, []), (89, .iconst 0, 0, 0, []), (90, .invokevirtual 75, 110, 10, [(2, 1)]), (93, .istore 5, 5, 0, []), (95, .aload_n 0, 0, 0, []), (96, .iconst 1, 0, 1, []), (97, .invokevirtual 75, 110, 10, [(2, 1)]), (100, .istore 6, 6, 0, []), (102, .aload_n 0, 0, 0, []), (103, .iconst 1, 0, 1, []), (104, .invokevirtual 99, 111, 10, [(2, 1)]), (107, .ifCond .lt 25, 132, 0, []), (110, .aload_n 0, 0, 0, []), (111, .iconst 0, 0, 0, []), (112, .invokevirtual 99, 111, 10, [(2, 1)]), (115, .iload 6, 6, 0, []), (117, .if_icmp .ne 13, 130, 0, []), (120, .aload_n 0, 0, 0, []), (121, .iconst 0, 0, 0, []), (122, .invokevirtual 75, 110, 10, [(2, 1)]), (125, .iload 5, 5, 0, []), (127, .if_icmp .eq 5, 132, 0, []), (130, .iconst 0, 0, 0, []), (131, .ireturn, 0, 0, []), (132, .aload_n 0, 0, 0, []), (133, .iconst 3, 0, 3, []), (134, .invokevirtual 75, 110, 10, [(2, 1)]), (137, .istore 7, 7, 0, []), (139, .aload_n 0, 0, 0, []), (140, .iconst 2, 0, 2, []), (141, .invokevirtual 75, 110, 10, [(2, 1)]), (144, .istore 8, 8, 0, []), (146, .aload_n 0, 0, 0, []), (147, .iconst 1, 0, 1, []), (148, .invokevirtual 102, 112, 10, [(2, 1)]), (151, .iload 7, 7, 0, []), (153, .iconst 1, 0, 1, []), (154, .iadd, 0, 0, []), (155, .aload_n 0, 0, 0, []), (156, .iconst 2, 0, 2, []), (157, .invokevirtual 55, 102, 10, [(2, 1)]), (160, .if_icmp .ge 10, 170, 0, []), (163, .iload 7, 7, 0, []), (165, .iconst 1, 0, 1, []), (166, .iadd, 0, 0, []), (167, .goto 5, 172, 0, []), (170, .iload 7, 7, 0, []), (172, .if_icmp .ne 61, 233, 0, []), (175, .aload_n 0, 0, 0, []), (176, .iconst 2, 0, 2, []), (177, .invokevirtual 75, 110, 10, [(2, 1)]), (180, .iload 8, 8, 0, []), (182, .if_icmp .ne 51, 233, 0, []), (185, .aload_n 0, 0, 0, []), (186, .iconst (-1), 0, (-1), []), (187, .invokevirtual 102, 112, 10, [(2, 1)]), (190, .iload 7, 7, 0, []), (192, .iconst 1, 0, 1, []), (193, .isub, 0, 0, []), (194, .if_icmp .lt 39, 233, 0, []), (197, .iload 7, 7, 0, []), (199, .iconst 1, 0, 1, []), (200, .iadd, 0, 0, []), (201, .aload_n 0, 0, 0, []), (202, .iconst 2, 0, 2, []), (203, .invokevirtual 55, 102, 10, [(2, 1)]), (206, .if_icmp .ge 23, 229, 0, []), (209, .aload_n 0, 0, 0, []), (210, .iconst 1, 0, 1, []), (211, .invokevirtual 75, 110, 10, [(2, 1)]), (214, .iload 6, 6, 0, []), (216, .if_icmp .ne 17, 233, 0, []), (219, .aload_n 0, 0, 0, []), (220, .iconst 0, 0, 0, []), (221, .invokevirtual 75, 110, 10, [(2, 1)]), (224, .iload 5, 5, 0, []), (226, .if_icmp .ne 7, 233, 0, []), (229, .iconst 1, 0, 1, []), (230, .goto 4, 234, 0, []), (233, .iconst 0, 0, 0, []), (234, .ireturn, 0, 0, [])], [(172, [true, false, false, false, false, true, true, true, true])], 9, 2)
def zt_151 : zT := ([(0, .aload_n 0, 0, 0, []), (1, .iconst 0, 0, 0, []), (2, .invokevirtual 131, 122, 10, [(2, 1)]), (5, .ifCond .ge 5, 10, 0, []), (8, .iconst 0, 0, 0, []), (9, .ireturn, 0, 0, []), (10, .aload_n 0, 0, 0, []), (11, .invokestatic 117, 146, 0, [(1, 1)]), (14, .istore_n 2, 2, 0, []), (15, .aload_n 0, 0, 0, []), (16, .iconst 0, 0, 0, []), (17, .iconst 4, 0, 4, []), (18, .iload_n 1, 1, 0, []), (19, .bipush 37, 0, 37, []), (21, .invokestatic 9, 138, 0, [(2, 1)]), (24, .iadd, 0, 0, []), (25, .invokevirtual 105, 121, 10, [(3, 1)]), (28, .istore_n 3, 3, 0, []), (29, .aload_n 0, 0, 0, []), (30, .iconst 2, 0, 2, []), (31, .iconst 0, 0, 0, []), (32, .invokevirtual 105, 121, 10, [(3, 1)]), (35, .istore 4, 4, 0, []), (37, .aload_n 0, 0, 0, []), (38, .iconst 2, 0, 2, []), (39, .invokevirtual 55, 102, 10, [(2, 1)]), (42, .aload_n 0, 0, 0, []), (43, .iconst 0, 0, 0, []), (44, .invokevirtual 55, 102, 10, [(2, 1)]), (47, .aload_n 0, 0, 0, []), (48, .iconst 3, 0, 3, []), (49, .invokevirtual 55, 102, 10, [(2, 1)]), (52, .isub, 0, 0, []), (53, .if_icmp .ne 23, 76, 0, []), (56, .aload_n 0, 0, 0, []), (57, .iconst 2, 0, 2, []), (58, .invokevirtual 75, 110, 10, [(2, 1)]), (61, .aload_n 0, 0, 0, []), (62, .iconst 4, 0, 4, []), (63, .invokevirtual 75, 110, 10, [(2, 1)]), (66, .if_icmp .ne 10, 76, 0, []), (69, .aload_n 0, 0, 0, []), (70, .invokestatic 134, 147, 0, [(1, 2)]), (73, .ifCond .ne 5, 78, 0, []), (76, .iconst 0, 0, 0, []), (77, .ireturn, 0, 0, []), (78, .aload_n 0, 0, 0, []), (79, .iconst 0, 0, 0, []), (80, .iload_n 3, 3, 0, []), (81, .invokevirtual 105, 121, 10, [(3, 1)]), (84, .ifCond .lt 20, 104, 0, []), (87, .aload_n 0, 0, 0, []), (88, .iconst 2, 0, 2, []), (89, .iload 4, 4, 0, []), (91, .invokevirtual 105, 121, 10, [(3, 1)]), (94, .ifCond .ne 10, 104, 0, []), (97, .aload_n 0, 0, 0, []), (98, .invokestatic 134, 147, 0, [(1, 2)]), (101, .ifCond .ne 5, 106, 0, []), (104, .iconst 0, 0, 0, []), (105, .ireturn, 0, 0, []), (106, .aload_n 0, 0, 0, []), (107, .iconst 0, 0, 0, []), (108, .invokevirtual 138, 123, 10, [(2, 1)]), (111, .aload_n 0, 0, 0, []), (112, .iconst 0, 0, 0, []), (113, .invokevirtual 55, 102, 10, [(2, 1)]), (116, .if_icmp .ne 24, 140, 0, []), (119, .aload_n 0, 0, 0, []), (120, .invokestatic 117, 146, 0, [(1, 1)]), (123, .iload_n 2, 2, 0, []), (124, .if_icmp .ne 16, 140, 0, []), (127, .aload_n 0, 0, 0, []), (128, .bipush 10, 0, 10, []), (130, .invokevirtual 55, 102, 10, [(2, 1)]), (133, .ifCond .ne 7, 140, 0, []), (136, .iconst 1, 0, 1, []), (137, .goto 4, 141, 0, []), (140, .iconst 0, 0, 0, []), (141, .ireturn, 0, 0, [])], [], 5, 2)
def zt_152 : zT := ([(0, .new 28, 10, 10, []), (3, .dup, 0, 0, []), (4, .invokespecial 141, 98, 10, [(1, 0)]), (7, .astore_n 1, 1, 0, []), (8, .bipush 60, 0, 60, []), (10, .newarray .long, 19, 0, []), (12, .astore_n 2, 2, 0, []), (13, .bipush 40, 0, 40, []), (15, .newarray .int, 12, 0, []), (17, .astore_n 3, 3, 0, []), (18, .aload_n 1, 1, 0, []), (19, .invokestatic 134, 147, 0, [(1, 2)]), (22, .ifCond .eq 28, 50, 0, []), (25, .aload_n 1, 1, 0, []), (26, .aload_n 2, 2, 0, []), (27, .aload_n 3, 3, 0, []), (28, .aload_n 0, 0, 0, []), (29, .iconst 5, 0, 5, []), (30, .invokestatic 142, 145, 0, [(5, 2)]), (33, .ifCond .eq 17, 50, 0, []), (36, .aload_n 1, 1, 0, []), (37, .invokestatic 134, 147, 0, [(1, 2)]), (40, .ifCond .eq 10, 50, 0, []), (43, .aload_n 1, 1, 0, []), (44, .invokestatic 146, 148, 0, [(1, 2)]), (47, .ifCond .ne 5, 52, 0, []), (50, .iconst 0, 0, 0, []), (51, .ireturn, 0, 0, []), (52, .iconst 0, 0, 0, []), (53, .istore 4, 4, 0, []), (55, .iload 4, 4, 0, []), (57, .bipush 16, 0, 16, []), (59, .if_icmp .ge 70, 129, 0, []), (62, .aload_n 0, 0, 0, []), (63, .bipush 120, 0, 120, []), (65, .iload 4, 4, 0, []), (67, .iadd, 0, 0, []), (68, .invokestatic 23, 139, 0, [(2, 1)]), (71, .istore 5, 5, 0, []), (73, .iload 5, 5, 0, []), (75, .iconst 3, 0, 3, []), (76, .invokestatic 9, 138, 0, [(2, 1)]), (79, .ifCond .le 15, 94, 0, []), (82, .aload_n 1, 1, 0, []), (83, .iload 5, 5, 0, []), (85, .iconst 2, 0, 2, []), (86, .ishr, 0, 0, []), (87, .invokestatic 121, 149, 0, [(2, 2)]), (90, .pop, 0, 0, []), (91, .goto 16, 107, 0, []), (94, .aload_n 1, 1, 0, []), (95, .iload 5, 5, 0, []), (97, .iconst 2, 0, 2, []), (98, .ishr, 0, 0, []), (99, .invokestatic 149, 150, 0, [(2, 2)]), (102, .ifCond .ne 5, 107, 0, []), (105, .iconst 0, 0, 0, []), (106, .ireturn, 0, 0, []), (107, .aload_n 1, 1, 0, []), (108, .invokestatic 134, 147, 0, [(1, 2)]), (111, .ifCond .eq 10, 121, 0, []), (114, .aload_n 1, 1, 0, []), (115, .invokestatic 146, 148, 0, [(1, 2)]), (118, .ifCond .ne 5, 123, 0, []), (121, .iconst 0, 0, 0, []), (122, .ireturn, 0, 0, []), (123, .iinc 4 1, 4, 1, []), (126, .goto (-71), 55, 0, []), (129, .aload_n 1, 1, 0, []), (130, .aload_n 0, 0, 0, []), (131, .iconst 3, 0, 3, []), (132, .invokestatic 23, 139, 0, [(2, 1)]), (135, .invokestatic 152, 151, 0, [(2, 2)]), (138, .ifCond .eq 21, 159, 0, []), (141, .aload_n 1, 1, 0, []), (142, .invokestatic 134, 147, 0, [(1, 2)]), (145, .ifCond .eq 14, 159, 0, []), (148, .aload_n 1, 1, 0, []), (149, .invokestatic 146, 148, 0, [(1, 2)]), (152, .ifCond .eq 7, 159, 0, []), (155, .iconst 1, 0, 1, []), (156, .goto 4, 160, 0, []), (159, .iconst 0, 0, 0, []), (160, .ireturn, 0, 0, [])], [(55, [true, true, false, false, true, false])], 6, 2)
abbrev zr_0 : zi_rec := (yX0_init, cX0_init, none, 0, zt_0)
abbrev zr_1 : zi_rec := (yX0_has, cX0_has, some .boolean, 1, zt_1)
abbrev zr_2 : zi_rec := (yX0_firstOf, cX0_firstOf, some .int, 1, zt_2)
abbrev zr_3 : zi_rec := (yX0_lastOf, cX0_lastOf, some .int, 1, zt_3)
abbrev zr_4 : zi_rec := (yX0_isShut, cX0_isShut, some .boolean, 1, zt_4)
abbrev zr_5 : zi_rec := (yX0_setShut, cX0_setShut, none, 2, zt_5)
abbrev zr_6 : zi_rec := (yX0_shutCount, cX0_shutCount, some .int, 0, zt_6)
abbrev zr_7 : zi_rec := (yX0_depthOf, cX0_depthOf, some .int, 1, zt_7)
abbrev zr_8 : zi_rec := (yX0_hides, cX0_hides, some .boolean, 1, zt_8)
abbrev zr_9 : zi_rec := (yX0_shutsBehind, cX0_shutsBehind, some .boolean, 1, zt_9)
abbrev zr_10 : zi_rec := (yX0_clash, cX0_clash, some .boolean, 2, zt_10)
abbrev zr_11 : zi_rec := (yX0_add, cX0_add, some .int, 2, zt_11)
abbrev zr_12 : zi_rec := (yX0_clear, cX0_clear, none, 0, zt_12)
abbrev zr_13 : zi_rec := (yX0_followSplit, cX0_followSplit, none, 1, zt_13)
abbrev zr_14 : zi_rec := (yX0_followJoin, cX0_followJoin, none, 1, zt_14)
abbrev zr_15 : zi_rec := (yX0_copyFrom, cX0_copyFrom, none, 1, zt_15)
abbrev zr_16 : zi_rec := (yX0_areAtOdds, cX0_areAtOdds, some .boolean, 4, zt_16)
abbrev zr_17 : zi_rec := (yX0_comeAhead, cX0_comeAhead, some .boolean, 4, zt_17)
abbrev zr_18 : zi_rec := (yX0_write, cX0_write, none, 4, zt_18)
abbrev zr_19 : zi_rec := (yX1_init, cX1_init, none, 0, zt_19)
abbrev zr_20 : zi_rec := (yX1_clear, cX1_clear, none, 0, zt_20)
abbrev zr_21 : zi_rec := (yX1_copyFrom, cX1_copyFrom, none, 1, zt_21)
abbrev zr_22 : zi_rec := (yX1_hiddenLines, cX1_hiddenLines, some .int, 0, zt_22)
abbrev zr_23 : zi_rec := (yX1_shownLineAhead, cX1_shownLineAhead, some .int, 0, zt_23)
abbrev zr_24 : zi_rec := (yX1_shownLineBehind, cX1_shownLineBehind, some .int, 0, zt_24)
abbrev zr_25 : zi_rec := (yX2_init, cX2_init, none, 0, zt_25)
abbrev zr_26 : zi_rec := (yX2_forget, cX2_forget, none, 0, zt_26)
abbrev zr_27 : zi_rec := (yX2_remember, cX2_remember, none, 1, zt_27)
abbrev zr_28 : zi_rec := (yX2_takeBack, cX2_takeBack, some (.object "FoldedRows$Frame"), 1, zt_28)
abbrev zr_29 : zi_rec := (yX2_doAgain, cX2_doAgain, some (.object "FoldedRows$Frame"), 1, zt_29)
abbrev zr_30 : zi_rec := (yX2_exchange, cX2_exchange, some (.object "FoldedRows$Frame"), 2, zt_30)
abbrev zr_31 : zi_rec := (yX2_dropOldest, cX2_dropOldest, none, 0, zt_31)
abbrev zr_32 : zi_rec := (yX3_init, cX3_init, none, 0, zt_32)
abbrev zr_33 : zi_rec := (yX4_init, cX4_init, none, 0, zt_33)
abbrev zr_34 : zi_rec := (yX4_arrange, cX4_arrange, none, 3, zt_34)
abbrev zr_35 : zi_rec := (yX4_stopCount, cX4_stopCount, some .int, 0, zt_35)
abbrev zr_36 : zi_rec := (yX4_breakCount, cX4_breakCount, some .int, 0, zt_36)
abbrev zr_37 : zi_rec := (yX4_hangCount, cX4_hangCount, some .int, 0, zt_37)
abbrev zr_38 : zi_rec := (yX4_isStop, cX4_isStop, some .boolean, 1, zt_38)
abbrev zr_39 : zi_rec := (yX4_isBreak, cX4_isBreak, some .boolean, 1, zt_39)
abbrev zr_40 : zi_rec := (yX4_rowOf, cX4_rowOf, some .int, 1, zt_40)
abbrev zr_41 : zi_rec := (yX4_columnOf, cX4_columnOf, some .int, 1, zt_41)
abbrev zr_42 : zi_rec := (yX4_firstPlace, cX4_firstPlace, some .int, 1, zt_42)
abbrev zr_43 : zi_rec := (yX4_firstColumn, cX4_firstColumn, some .int, 1, zt_43)
abbrev zr_44 : zi_rec := (yX4_columnBehind, cX4_columnBehind, some .int, 1, zt_44)
abbrev zr_45 : zi_rec := (yX4_placeCovering, cX4_placeCovering, some .int, 2, zt_45)
abbrev zr_46 : zi_rec := (yX4_placeNear, cX4_placeNear, some .int, 2, zt_46)
abbrev zr_47 : zi_rec := (yX4_stopFrom, cX4_stopFrom, some .int, 1, zt_47)
abbrev zr_48 : zi_rec := (yX4_stopBehind, cX4_stopBehind, some .int, 1, zt_48)
abbrev zr_49 : zi_rec := (yX4_stopAhead, cX4_stopAhead, some .int, 1, zt_49)
abbrev zr_50 : zi_rec := (yX4_leadingCells, cX4_leadingCells, some .int, 3, zt_50)
abbrev zr_51 : zi_rec := (yX4_findBreaks, cX4_findBreaks, none, 2, zt_51)
abbrev zr_52 : zi_rec := (yX4_findStops, cX4_findStops, none, 2, zt_52)
abbrev zr_53 : zi_rec := (yX4_fillRow, cX4_fillRow, some .int, 4, zt_53)
abbrev zr_54 : zi_rec := (yX4_rowEnd, cX4_rowEnd, some .int, 2, zt_54)
abbrev zr_55 : zi_rec := (yX5_init, cX5_init, none, 0, zt_55)
abbrev zr_56 : zi_rec := (yX5_has, cX5_has, some .boolean, 1, zt_56)
abbrev zr_57 : zi_rec := (yX5_hasPlace, cX5_hasPlace, some .boolean, 2, zt_57)
abbrev zr_58 : zi_rec := (yX5_length, cX5_length, some .int, 1, zt_58)
abbrev zr_59 : zi_rec := (yX5_total, cX5_total, some .int, 0, zt_59)
abbrev zr_60 : zi_rec := (yX5_signOf, cX5_signOf, some .int, 2, zt_60)
abbrev zr_61 : zi_rec := (yX5_clear, cX5_clear, none, 0, zt_61)
abbrev zr_62 : zi_rec := (yX5_addLine, cX5_addLine, none, 0, zt_62)
abbrev zr_63 : zi_rec := (yX5_append, cX5_append, none, 2, zt_63)
abbrev zr_64 : zi_rec := (yX5_insert, cX5_insert, none, 3, zt_64)
abbrev zr_65 : zi_rec := (yX5_remove, cX5_remove, none, 3, zt_65)
abbrev zr_66 : zi_rec := (yX5_divide, cX5_divide, none, 2, zt_66)
abbrev zr_67 : zi_rec := (yX5_joinWithNext, cX5_joinWithNext, none, 1, zt_67)
abbrev zr_68 : zi_rec := (yX5_copyFrom, cX5_copyFrom, none, 1, zt_68)
abbrev zr_69 : zi_rec := (yX5_copyLine, cX5_copyLine, none, 2, zt_69)
abbrev zr_70 : zi_rec := (yX5_appendPart, cX5_appendPart, none, 3, zt_70)
abbrev zr_71 : zi_rec := (yX5_writeSign, cX5_writeSign, none, 3, zt_71)
abbrev zr_72 : zi_rec := (yX6_pick, cX6_pick, some .int, 2, zt_72)
abbrev zr_73 : zi_rec := (yX6_put, cX6_put, none, 3, zt_73)
abbrev zr_74 : zi_rec := (yX6_copy, cX6_copy, none, 2, zt_74)
abbrev zr_75 : zi_rec := (yX6_sum, cX6_sum, some .int, 2, zt_75)
abbrev zr_76 : zi_rec := (yX7_init, cX7_init, none, 0, zt_76)
abbrev zr_77 : zi_rec := (yX7_laidLine, cX7_laidLine, some (.object "FoldedRows$LaidLine"), 1, zt_77)
abbrev zr_78 : zi_rec := (yX7_layLines, cX7_layLines, none, 2, zt_78)
abbrev zr_79 : zi_rec := (yX7_rowCount, cX7_rowCount, some .int, 1, zt_79)
abbrev zr_80 : zi_rec := (yX7_firstRowOf, cX7_firstRowOf, some .int, 2, zt_80)
abbrev zr_81 : zi_rec := (yX7_rowOf, cX7_rowOf, some .int, 3, zt_81)
abbrev zr_82 : zi_rec := (yX7_lineOfRow, cX7_lineOfRow, some .int, 2, zt_82)
abbrev zr_83 : zi_rec := (yX8_init, cX8_init, none, 0, zt_83)
abbrev zr_84 : zi_rec := (yX8_allows, cX8_allows, some .boolean, 2, zt_84)
abbrev zr_85 : zi_rec := (yX8_change, cX8_change, some .int, 2, zt_85)
abbrev zr_86 : zi_rec := (yX8_copyFrom, cX8_copyFrom, none, 1, zt_86)
abbrev zr_87 : zi_rec := (yX8_cellsToTabStop, cX8_cellsToTabStop, some .int, 1, zt_87)
abbrev zr_88 : zi_rec := (yX8_cellsOf, cX8_cellsOf, some .int, 3, zt_88)
abbrev zr_89 : zi_rec := (yX8_fits, cX8_fits, some .boolean, 3, zt_89)
abbrev zr_90 : zi_rec := (yX9_init, cX9_init, none, 0, zt_90)
abbrev zr_91 : zi_rec := (yX10_init, cX10_init, none, 0, zt_91)
abbrev zr_92 : zi_rec := (yX10_append, cX10_append, some .boolean, 1, zt_92)
abbrev zr_93 : zi_rec := (yX10_readInto, cX10_readInto, some .int, 1, zt_93)
abbrev zr_94 : zi_rec := (yX10_readByte, cX10_readByte, some .int, 2, zt_94)
abbrev zr_95 : zi_rec := (yX10_endLine, cX10_endLine, some .int, 1, zt_95)
abbrev zr_96 : zi_rec := (yX10_beginFold, cX10_beginFold, some .int, 1, zt_96)
abbrev zr_97 : zi_rec := (yX10_endFold, cX10_endFold, some .int, 2, zt_97)
abbrev zr_98 : zi_rec := (yX11_init, cX11_init, none, 0, zt_98)
abbrev zr_99 : zi_rec := (yX11_feed, cX11_feed, some .int, 1, zt_99)
abbrev zr_100 : zi_rec := (yX11_text, cX11_text, some .int, 0, zt_100)
abbrev zr_101 : zi_rec := (yX11_fault, cX11_fault, some .int, 0, zt_101)
abbrev zr_102 : zi_rec := (yX11_rule, cX11_rule, some .int, 1, zt_102)
abbrev zr_103 : zi_rec := (yX11_sign, cX11_sign, some .int, 2, zt_103)
abbrev zr_104 : zi_rec := (yX11_line, cX11_line, some .int, 2, zt_104)
abbrev zr_105 : zi_rec := (yX11_row, cX11_row, some .int, 2, zt_105)
abbrev zr_106 : zi_rec := (yX11_cell, cX11_cell, some .int, 2, zt_106)
abbrev zr_107 : zi_rec := (yX11_at, cX11_at, some .int, 3, zt_107)
abbrev zr_108 : zi_rec := (yX11_to, cX11_to, some .int, 2, zt_108)
abbrev zr_109 : zi_rec := (yX11_fold, cX11_fold, some .int, 2, zt_109)
abbrev zr_110 : zi_rec := (yX11_caret, cX11_caret, some .int, 1, zt_110)
abbrev zr_111 : zi_rec := (yX11_step, cX11_step, some .int, 1, zt_111)
abbrev zr_112 : zi_rec := (yX11_down, cX11_down, some .int, 1, zt_112)
abbrev zr_113 : zi_rec := (yX11_edge, cX11_edge, some .int, 1, zt_113)
abbrev zr_114 : zi_rec := (yX11_type, cX11_type, some .int, 1, zt_114)
abbrev zr_115 : zi_rec := (yX11_erase, cX11_erase, some .int, 0, zt_115)
abbrev zr_116 : zi_rec := (yX11_split, cX11_split, some .int, 0, zt_116)
abbrev zr_117 : zi_rec := (yX11_undo, cX11_undo, some .int, 0, zt_117)
abbrev zr_118 : zi_rec := (yX11_redo, cX11_redo, some .int, 0, zt_118)
abbrev zr_119 : zi_rec := (yX11_wrap, cX11_wrap, some .int, 2, zt_119)
abbrev zr_120 : zi_rec := (yX11_shut, cX11_shut, some .int, 2, zt_120)
abbrev zr_121 : zi_rec := (yX11_set, cX11_set, some .int, 2, zt_121)
abbrev zr_122 : zi_rec := (yX11_keep, cX11_keep, some .int, 1, zt_122)
abbrev zr_123 : zi_rec := (yX11_back, cX11_back, some .int, 1, zt_123)
abbrev zr_124 : zi_rec := (yX11_joinWithLineAhead, cX11_joinWithLineAhead, some .int, 0, zt_124)
abbrev zr_125 : zi_rec := (yX11_layAll, cX11_layAll, none, 0, zt_125)
abbrev zr_126 : zi_rec := (yX11_layCaretLine, cX11_layCaretLine, none, 0, zt_126)
abbrev zr_127 : zi_rec := (yX11_settleCaret, cX11_settleCaret, none, 0, zt_127)
abbrev zr_128 : zi_rec := (yX11_moveCaret, cX11_moveCaret, none, 2, zt_128)
abbrev zr_129 : zi_rec := (yX11_caretRow, cX11_caretRow, some .int, 0, zt_129)
abbrev zr_130 : zi_rec := (yX11_caretColumn, cX11_caretColumn, some .int, 0, zt_130)
abbrev zr_131 : zi_rec := (yX11_imageCount, cX11_imageCount, some .int, 0, zt_131)
abbrev zr_132 : zi_rec := (yX11_forgetImage, cX11_forgetImage, none, 1, zt_132)
abbrev zr_133 : zi_rec := (yX11_imageOf, cX11_imageOf, some (.object "FoldedRows$Image"), 1, zt_133)
abbrev zr_134 : zi_rec := (yX11_isWide, cX11_isWide, some .boolean, 1, zt_134)
abbrev zr_135 : zi_rec := (yX11_isGap, cX11_isGap, some .boolean, 1, zt_135)
abbrev zr_136 : zi_rec := (yX11_isSign, cX11_isSign, some .boolean, 1, zt_136)
abbrev zr_137 : zi_rec := (yX11_letsBreakBehind, cX11_letsBreakBehind, some .boolean, 1, zt_137)
abbrev zr_138 : zi_rec := (yL_part, cL_part, some .int, 2, zt_138)
abbrev zr_139 : zi_rec := (yL_cell, cL_cell, some .int, 2, zt_139)
abbrev zr_140 : zi_rec := (yL_signOf, cL_signOf, some .int, 1, zt_140)
abbrev zr_141 : zi_rec := (yL_put, cL_put, none, 4, zt_141)
abbrev zr_142 : zi_rec := (yL_cross, cL_cross, some .boolean, 4, zt_142)
abbrev zr_143 : zi_rec := (yL_clashes, cL_clashes, some .boolean, 4, zt_143)
abbrev zr_144 : zi_rec := (yL_comes, cL_comes, some .int, 3, zt_144)
abbrev zr_145 : zi_rec := (yL_tell, cL_tell, some .boolean, 5, zt_145)
abbrev zr_146 : zi_rec := (yL_all, cL_all, some .int, 1, zt_146)
abbrev zr_147 : zi_rec := (yL_steady, cL_steady, some .boolean, 1, zt_147)
abbrev zr_148 : zi_rec := (yL_nested, cL_nested, some .boolean, 1, zt_148)
abbrev zr_149 : zi_rec := (yL_acts, cL_acts, some .boolean, 2, zt_149)
abbrev zr_150 : zi_rec := (yL_takes, cL_takes, some .boolean, 2, zt_150)
abbrev zr_151 : zi_rec := (yL_sets, cL_sets, some .boolean, 2, zt_151)
def zi_recs : List zi_rec := [zr_0, zr_1, zr_2, zr_3, zr_4, zr_5, zr_6, zr_7, zr_8, zr_9, zr_10, zr_11, zr_12, zr_13, zr_14, zr_15, zr_16, zr_17, zr_18, zr_19, zr_20, zr_21, zr_22, zr_23, zr_24, zr_25, zr_26, zr_27, zr_28, zr_29, zr_30, zr_31, zr_32, zr_33, zr_34, zr_35, zr_36, zr_37, zr_38, zr_39, zr_40, zr_41, zr_42, zr_43, zr_44, zr_45, zr_46, zr_47, zr_48, zr_49, zr_50, zr_51, zr_52, zr_53, zr_54, zr_55, zr_56, zr_57, zr_58, zr_59, zr_60, zr_61, zr_62, zr_63, zr_64, zr_65, zr_66, zr_67, zr_68, zr_69, zr_70, zr_71, zr_72, zr_73, zr_74, zr_75, zr_76, zr_77, zr_78, zr_79, zr_80, zr_81, zr_82, zr_83, zr_84, zr_85, zr_86, zr_87, zr_88, zr_89, zr_90, zr_91, zr_92, zr_93, zr_94, zr_95, zr_96, zr_97, zr_98, zr_99, zr_100, zr_101, zr_102, zr_103, zr_104, zr_105, zr_106, zr_107, zr_108, zr_109, zr_110, zr_111, zr_112, zr_113, zr_114, zr_115, zr_116, zr_117, zr_118, zr_119, zr_120, zr_121, zr_122, zr_123, zr_124, zr_125, zr_126, zr_127, zr_128, zr_129, zr_130, zr_131, zr_132, zr_133, zr_134, zr_135, zr_136, zr_137, zr_138, zr_139, zr_140, zr_141, zr_142, zr_143, zr_144, zr_145, zr_146, zr_147, zr_148, zr_149, zr_150, zr_151]
def zi_nps : List (Nat × Nat) := zi_recs.map fun r => (r.2.2.2.1, r.2.2.2.2.2.2.2)
theorem zi_hnp (a : Nat) (r : zi_rec) (q : Nat × Nat) (hr : zi_recs[a]? = some r) (hq : zi_nps[a]? = some q) : q = (r.2.2.2.1, r.2.2.2.2.2.2.2) := by
  unfold zi_nps at hq
  rw [List.getElem?_map, hr] at hq
  exact (Option.some.inj hq).symm
theorem zi_hwd : Jvm.Cond.arrayClass .int ∈ zi_tb ∧ Jvm.Cond.arrayClass .long ∈ zi_tb := ⟨(zi_tb_of (List.mem_of_getElem? (i := 75) (by decide +kernel)) rfl), (zi_tb_of (List.mem_of_getElem? (i := 927) (by decide +kernel)) rfl)⟩
end
section
/-! the places of the pools -/
theorem zp_chain {recs : List zi_rec} {own : String} {e : Nat × Nat × Nat × Int} {l : List (Nat × Nat × Nat × Int)} (h : zi_pm recs own e) (hl : ∀ x ∈ l, zi_pm recs own x) : ∀ x ∈ e :: l, zi_pm recs own x := List.forall_mem_cons.mpr ⟨h, hl⟩
theorem zp_X0_0 : zi_pm zi_recs RX0 (9, 0, 0, 0) := ⟨(RX0, TX0, 4), 0, rfl, rfl, by decide, (zi_tb_of (List.mem_of_getElem? (i := 141) (by decide +kernel)) rfl)⟩
theorem zp_X0_1 : zi_pm zi_recs RX0 (15, 0, 0, 1) := ⟨(RX0, TX0, 4), 1, rfl, rfl, by decide, (zi_tb_of (List.mem_of_getElem? (i := 143) (by decide +kernel)) rfl)⟩
theorem zp_X0_2 : zi_pm zi_recs RX0 (19, 0, 0, 2) := ⟨(RX0, TX0, 4), 2, rfl, rfl, by decide, (zi_tb_of (List.mem_of_getElem? (i := 144) (by decide +kernel)) rfl)⟩
theorem zp_X0_3 : zi_pm zi_recs RX0 (22, 0, 0, 3) := ⟨(RX0, TX0, 4), 3, rfl, rfl, by decide, (zi_tb_of (List.mem_of_getElem? (i := 145) (by decide +kernel)) rfl)⟩
theorem zp_X0_4 : zi_pm zi_recs RX0 (3, 12, 1000, 0) := ⟨by decide, by decide, (zi_tb_of (List.mem_of_getElem? (i := 140) (by decide +kernel)) rfl), (zi_tb_of (List.mem_of_getElem? (i := 46) (by decide +kernel)) rfl), (zi_tb_of (List.mem_of_getElem? (i := 47) (by decide +kernel)) rfl)⟩
theorem zp_X0_5 : zi_pm zi_recs RX0 (25, 2, 72, 0) := ⟨zr_72, rfl, (zi_tb_of (List.mem_of_getElem? (i := 530) (by decide +kernel)) rfl), (zi_tb_of (List.mem_of_getElem? (i := 312) (by decide +kernel)) rfl)⟩
theorem zp_X0_6 : zi_pm zi_recs RX0 (31, 2, 73, 0) := ⟨zr_73, rfl, (zi_tb_of (List.mem_of_getElem? (i := 549) (by decide +kernel)) rfl), (zi_tb_of (List.mem_of_getElem? (i := 345) (by decide +kernel)) rfl)⟩
theorem zp_X0_7 : zi_pm zi_recs RX0 (35, 2, 75, 0) := ⟨zr_75, rfl, (zi_tb_of (List.mem_of_getElem? (i := 612) (by decide +kernel)) rfl), (zi_tb_of (List.mem_of_getElem? (i := 584) (by decide +kernel)) rfl)⟩
theorem zp_X0_8 : zi_pm zi_recs RX0 (38, 4, 2, 0) := ⟨zr_2, (RX0, TX0, 4), rfl, rfl, by decide, rfl, (zi_tb_of (List.mem_of_getElem? (i := 526) (by decide +kernel)) rfl), (zi_tb_of (List.mem_of_getElem? (i := 527) (by decide +kernel)) rfl), (zi_tb_of (List.mem_of_getElem? (i := 528) (by decide +kernel)) rfl)⟩
theorem zp_X0_9 : zi_pm zi_recs RX0 (42, 4, 3, 0) := ⟨zr_3, (RX0, TX0, 4), rfl, rfl, by decide, rfl, (zi_tb_of (List.mem_of_getElem? (i := 531) (by decide +kernel)) rfl), (zi_tb_of (List.mem_of_getElem? (i := 532) (by decide +kernel)) rfl), (zi_tb_of (List.mem_of_getElem? (i := 533) (by decide +kernel)) rfl)⟩
theorem zp_X0_10 : zi_pm zi_recs RX0 (45, 4, 4, 0) := ⟨zr_4, (RX0, TX0, 4), rfl, rfl, by decide, rfl, (zi_tb_of (List.mem_of_getElem? (i := 599) (by decide +kernel)) rfl), (zi_tb_of (List.mem_of_getElem? (i := 600) (by decide +kernel)) rfl), (zi_tb_of (List.mem_of_getElem? (i := 601) (by decide +kernel)) rfl)⟩
theorem zp_X0_11 : zi_pm zi_recs RX0 (49, 2, 16, 0) := ⟨zr_16, rfl, (zi_tb_of (List.mem_of_getElem? (i := 535) (by decide +kernel)) rfl), (zi_tb_of (List.mem_of_getElem? (i := 536) (by decide +kernel)) rfl)⟩
theorem zp_X0_12 : zi_pm zi_recs RX0 (53, 2, 17, 0) := ⟨zr_17, rfl, (zi_tb_of (List.mem_of_getElem? (i := 542) (by decide +kernel)) rfl), (zi_tb_of (List.mem_of_getElem? (i := 543) (by decide +kernel)) rfl)⟩
theorem zp_X0_13 : zi_pm zi_recs RX0 (56, 4, 18, 0) := ⟨zr_18, (RX0, TX0, 4), rfl, rfl, by decide, rfl, (zi_tb_of (List.mem_of_getElem? (i := 545) (by decide +kernel)) rfl), (zi_tb_of (List.mem_of_getElem? (i := 547) (by decide +kernel)) rfl), (zi_tb_of (List.mem_of_getElem? (i := 13) (by decide +kernel)) rfl)⟩
theorem zp_X0_14 : zi_pm zi_recs RX0 (60, 4, 10, 0) := ⟨zr_10, (RX0, TX0, 4), rfl, rfl, by decide, rfl, (zi_tb_of (List.mem_of_getElem? (i := 795) (by decide +kernel)) rfl), (zi_tb_of (List.mem_of_getElem? (i := 523) (by decide +kernel)) rfl), (zi_tb_of (List.mem_of_getElem? (i := 524) (by decide +kernel)) rfl)⟩
theorem zp_X0_15 : zi_pm zi_recs RX0 (64, 2, 74, 0) := ⟨zr_74, rfl, (zi_tb_of (List.mem_of_getElem? (i := 755) (by decide +kernel)) rfl), (zi_tb_of (List.mem_of_getElem? (i := 745) (by decide +kernel)) rfl)⟩
def zpl_X0 : List (Nat × Nat × Nat × Int) := [(9, 0, 0, 0), (15, 0, 0, 1), (19, 0, 0, 2), (22, 0, 0, 3), (3, 12, 1000, 0), (25, 2, 72, 0), (31, 2, 73, 0), (35, 2, 75, 0), (38, 4, 2, 0), (42, 4, 3, 0), (45, 4, 4, 0), (49, 2, 16, 0), (53, 2, 17, 0), (56, 4, 18, 0), (60, 4, 10, 0), (64, 2, 74, 0)]
theorem zpl_X0_ok : ∀ e ∈ zpl_X0, zi_pm zi_recs RX0 e := zp_chain zp_X0_0 (zp_chain zp_X0_1 (zp_chain zp_X0_2 (zp_chain zp_X0_3 (zp_chain zp_X0_4 (zp_chain zp_X0_5 (zp_chain zp_X0_6 (zp_chain zp_X0_7 (zp_chain zp_X0_8 (zp_chain zp_X0_9 (zp_chain zp_X0_10 (zp_chain zp_X0_11 (zp_chain zp_X0_12 (zp_chain zp_X0_13 (zp_chain zp_X0_14 (zp_chain zp_X0_15 ( fun e h => absurd h List.not_mem_nil))))))))))))))))
theorem zp_X1_0 : zi_pm zi_recs RX1 (10, 0, 1, 0) := ⟨(RX1, TX1, 4), 0, rfl, rfl, by decide, (zi_tb_of (List.mem_of_getElem? (i := 155) (by decide +kernel)) rfl)⟩
theorem zp_X1_1 : zi_pm zi_recs RX1 (19, 0, 1, 1) := ⟨(RX1, TX1, 4), 1, rfl, rfl, by decide, (zi_tb_of (List.mem_of_getElem? (i := 159) (by decide +kernel)) rfl)⟩
theorem zp_X1_2 : zi_pm zi_recs RX1 (23, 0, 1, 2) := ⟨(RX1, TX1, 4), 2, rfl, rfl, by decide, (zi_tb_of (List.mem_of_getElem? (i := 163) (by decide +kernel)) rfl)⟩
theorem zp_X1_3 : zi_pm zi_recs RX1 (27, 0, 1, 3) := ⟨(RX1, TX1, 4), 3, rfl, rfl, by decide, (zi_tb_of (List.mem_of_getElem? (i := 165) (by decide +kernel)) rfl)⟩
theorem zp_X1_4 : zi_pm zi_recs RX1 (41, 1, 5, 0) := ⟨(RX5, TX5, 3), 0, "FoldedRows", rfl, rfl, by decide, (List.mem_of_getElem? (i := 123) (by decide +kernel))⟩
theorem zp_X1_5 : zi_pm zi_recs RX1 (1, 12, 1000, 1) := ⟨by decide, by decide, (zi_tb_of (List.mem_of_getElem? (i := 114) (by decide +kernel)) rfl), (zi_tb_of (List.mem_of_getElem? (i := 46) (by decide +kernel)) rfl), (zi_tb_of (List.mem_of_getElem? (i := 47) (by decide +kernel)) rfl)⟩
theorem zp_X1_6 : zi_pm zi_recs RX1 (9, 7, 55, 5) := ⟨zr_55, "FoldedRows", rfl, by decide, by decide, rfl, rfl, (List.mem_of_getElem? (i := 117) (by decide +kernel)), (zi_tb_of (List.mem_of_getElem? (i := 118) (by decide +kernel)) rfl)⟩
theorem zp_X1_7 : zi_pm zi_recs RX1 (18, 7, 0, 0) := ⟨zr_0, "FoldedRows", rfl, by decide, by decide, rfl, rfl, (List.mem_of_getElem? (i := 137) (by decide +kernel)), (zi_tb_of (List.mem_of_getElem? (i := 138) (by decide +kernel)) rfl)⟩
theorem zp_X1_8 : zi_pm zi_recs RX1 (30, 4, 61, 5) := ⟨zr_61, (RX5, TX5, 3), rfl, rfl, by decide, rfl, (zi_tb_of (List.mem_of_getElem? (i := 492) (by decide +kernel)) rfl), (zi_tb_of (List.mem_of_getElem? (i := 493) (by decide +kernel)) rfl), (zi_tb_of (List.mem_of_getElem? (i := 494) (by decide +kernel)) rfl)⟩
theorem zp_X1_9 : zi_pm zi_recs RX1 (33, 4, 12, 0) := ⟨zr_12, (RX0, TX0, 4), rfl, rfl, by decide, rfl, (zi_tb_of (List.mem_of_getElem? (i := 497) (by decide +kernel)) rfl), (zi_tb_of (List.mem_of_getElem? (i := 498) (by decide +kernel)) rfl), (zi_tb_of (List.mem_of_getElem? (i := 499) (by decide +kernel)) rfl)⟩
theorem zp_X1_10 : zi_pm zi_recs RX1 (34, 4, 68, 5) := ⟨zr_68, (RX5, TX5, 3), rfl, rfl, by decide, rfl, (zi_tb_of (List.mem_of_getElem? (i := 740) (by decide +kernel)) rfl), (zi_tb_of (List.mem_of_getElem? (i := 741) (by decide +kernel)) rfl), (zi_tb_of (List.mem_of_getElem? (i := 742) (by decide +kernel)) rfl)⟩
theorem zp_X1_11 : zi_pm zi_recs RX1 (38, 4, 15, 0) := ⟨zr_15, (RX0, TX0, 4), rfl, rfl, by decide, rfl, (zi_tb_of (List.mem_of_getElem? (i := 751) (by decide +kernel)) rfl), (zi_tb_of (List.mem_of_getElem? (i := 752) (by decide +kernel)) rfl), (zi_tb_of (List.mem_of_getElem? (i := 753) (by decide +kernel)) rfl)⟩
theorem zp_X1_12 : zi_pm zi_recs RX1 (44, 4, 8, 0) := ⟨zr_8, (RX0, TX0, 4), rfl, rfl, by decide, rfl, (zi_tb_of (List.mem_of_getElem? (i := 607) (by decide +kernel)) rfl), (zi_tb_of (List.mem_of_getElem? (i := 596) (by decide +kernel)) rfl), (zi_tb_of (List.mem_of_getElem? (i := 597) (by decide +kernel)) rfl)⟩
theorem zp_X1_13 : zi_pm zi_recs RX1 (7, 8, 5, 3) := ⟨(RX5, TX5, 3), rfl, rfl, (zi_tb_of (List.mem_of_getElem? (i := 115) (by decide +kernel)) rfl), (zi_tb_of (List.mem_of_getElem? (i := 116) (by decide +kernel)) rfl), (zi_tb_of (List.mem_of_getElem? (i := 31) (by decide +kernel)) rfl)⟩
theorem zp_X1_14 : zi_pm zi_recs RX1 (16, 8, 0, 4) := ⟨(RX0, TX0, 4), rfl, rfl, (zi_tb_of (List.mem_of_getElem? (i := 135) (by decide +kernel)) rfl), (zi_tb_of (List.mem_of_getElem? (i := 136) (by decide +kernel)) rfl), (zi_tb_of (List.mem_of_getElem? (i := 32) (by decide +kernel)) rfl)⟩
def zpl_X1 : List (Nat × Nat × Nat × Int) := [(10, 0, 1, 0), (19, 0, 1, 1), (23, 0, 1, 2), (27, 0, 1, 3), (41, 1, 5, 0), (1, 12, 1000, 1), (9, 7, 55, 5), (18, 7, 0, 0), (30, 4, 61, 5), (33, 4, 12, 0), (34, 4, 68, 5), (38, 4, 15, 0), (44, 4, 8, 0), (7, 8, 5, 3), (16, 8, 0, 4)]
theorem zpl_X1_ok : ∀ e ∈ zpl_X1, zi_pm zi_recs RX1 e := zp_chain zp_X1_0 (zp_chain zp_X1_1 (zp_chain zp_X1_2 (zp_chain zp_X1_3 (zp_chain zp_X1_4 (zp_chain zp_X1_5 (zp_chain zp_X1_6 (zp_chain zp_X1_7 (zp_chain zp_X1_8 (zp_chain zp_X1_9 (zp_chain zp_X1_10 (zp_chain zp_X1_11 (zp_chain zp_X1_12 (zp_chain zp_X1_13 (zp_chain zp_X1_14 ( fun e h => absurd h List.not_mem_nil)))))))))))))))
theorem zp_X2_0 : zi_pm zi_recs RX2 (11, 0, 2, 0) := ⟨(RX2, TX2, 3), 0, rfl, rfl, by decide, (zi_tb_of (List.mem_of_getElem? (i := 176) (by decide +kernel)) rfl)⟩
theorem zp_X2_1 : zi_pm zi_recs RX2 (17, 0, 2, 1) := ⟨(RX2, TX2, 3), 1, rfl, rfl, by decide, (zi_tb_of (List.mem_of_getElem? (i := 177) (by decide +kernel)) rfl)⟩
theorem zp_X2_2 : zi_pm zi_recs RX2 (21, 0, 2, 2) := ⟨(RX2, TX2, 3), 2, rfl, rfl, by decide, (zi_tb_of (List.mem_of_getElem? (i := 179) (by decide +kernel)) rfl)⟩
theorem zp_X2_3 : zi_pm zi_recs RX2 (3, 12, 1000, 2) := ⟨by decide, by decide, (zi_tb_of (List.mem_of_getElem? (i := 107) (by decide +kernel)) rfl), (zi_tb_of (List.mem_of_getElem? (i := 46) (by decide +kernel)) rfl), (zi_tb_of (List.mem_of_getElem? (i := 47) (by decide +kernel)) rfl)⟩
theorem zp_X2_4 : zi_pm zi_recs RX2 (24, 7, 19, 1) := ⟨zr_19, "FoldedRows", rfl, by decide, by decide, rfl, rfl, (List.mem_of_getElem? (i := 111) (by decide +kernel)), (zi_tb_of (List.mem_of_getElem? (i := 112) (by decide +kernel)) rfl)⟩
theorem zp_X2_5 : zi_pm zi_recs RX2 (25, 4, 31, 2) := ⟨zr_31, (RX2, TX2, 3), rfl, rfl, by decide, rfl, (zi_tb_of (List.mem_of_getElem? (i := 732) (by decide +kernel)) rfl), (zi_tb_of (List.mem_of_getElem? (i := 734) (by decide +kernel)) rfl), (zi_tb_of (List.mem_of_getElem? (i := 18) (by decide +kernel)) rfl)⟩
theorem zp_X2_6 : zi_pm zi_recs RX2 (28, 4, 21, 1) := ⟨zr_21, (RX1, TX1, 4), rfl, rfl, by decide, rfl, (zi_tb_of (List.mem_of_getElem? (i := 736) (by decide +kernel)) rfl), (zi_tb_of (List.mem_of_getElem? (i := 737) (by decide +kernel)) rfl), (zi_tb_of (List.mem_of_getElem? (i := 738) (by decide +kernel)) rfl)⟩
theorem zp_X2_7 : zi_pm zi_recs RX2 (32, 4, 30, 2) := ⟨zr_30, (RX2, TX2, 3), rfl, rfl, by decide, rfl, (zi_tb_of (List.mem_of_getElem? (i := 899) (by decide +kernel)) rfl), (zi_tb_of (List.mem_of_getElem? (i := 901) (by decide +kernel)) rfl), (zi_tb_of (List.mem_of_getElem? (i := 24) (by decide +kernel)) rfl)⟩
theorem zp_X2_8 : zi_pm zi_recs RX2 (9, 8, 1, 4) := ⟨(RX1, TX1, 4), rfl, rfl, (zi_tb_of (List.mem_of_getElem? (i := 108) (by decide +kernel)) rfl), (zi_tb_of (List.mem_of_getElem? (i := 110) (by decide +kernel)) rfl), (zi_tb_of (List.mem_of_getElem? (i := 30) (by decide +kernel)) rfl)⟩
theorem zp_X2_9 : zi_pm zi_recs RX2 (9, 9, 14, 0) := ⟨"FoldedRows$Frame", rfl, (zi_tb_of (List.mem_of_getElem? (i := 108) (by decide +kernel)) rfl), (List.mem_of_getElem? (i := 109) (by decide +kernel))⟩
def zpl_X2 : List (Nat × Nat × Nat × Int) := [(11, 0, 2, 0), (17, 0, 2, 1), (21, 0, 2, 2), (3, 12, 1000, 2), (24, 7, 19, 1), (25, 4, 31, 2), (28, 4, 21, 1), (32, 4, 30, 2), (9, 8, 1, 4), (9, 9, 14, 0)]
theorem zpl_X2_ok : ∀ e ∈ zpl_X2, zi_pm zi_recs RX2 e := zp_chain zp_X2_0 (zp_chain zp_X2_1 (zp_chain zp_X2_2 (zp_chain zp_X2_3 (zp_chain zp_X2_4 (zp_chain zp_X2_5 (zp_chain zp_X2_6 (zp_chain zp_X2_7 (zp_chain zp_X2_8 (zp_chain zp_X2_9 ( fun e h => absurd h List.not_mem_nil))))))))))
theorem zp_X3_0 : zi_pm zi_recs RX3 (10, 0, 3, 0) := ⟨(RX3, TX3, 3), 0, rfl, rfl, by decide, (zi_tb_of (List.mem_of_getElem? (i := 260) (by decide +kernel)) rfl)⟩
theorem zp_X3_1 : zi_pm zi_recs RX3 (19, 0, 3, 1) := ⟨(RX3, TX3, 3), 1, rfl, rfl, by decide, (zi_tb_of (List.mem_of_getElem? (i := 262) (by decide +kernel)) rfl)⟩
theorem zp_X3_2 : zi_pm zi_recs RX3 (23, 0, 3, 2) := ⟨(RX3, TX3, 3), 2, rfl, rfl, by decide, (zi_tb_of (List.mem_of_getElem? (i := 264) (by decide +kernel)) rfl)⟩
theorem zp_X3_3 : zi_pm zi_recs RX3 (1, 12, 1000, 3) := ⟨by decide, by decide, (zi_tb_of (List.mem_of_getElem? (i := 255) (by decide +kernel)) rfl), (zi_tb_of (List.mem_of_getElem? (i := 46) (by decide +kernel)) rfl), (zi_tb_of (List.mem_of_getElem? (i := 47) (by decide +kernel)) rfl)⟩
theorem zp_X3_4 : zi_pm zi_recs RX3 (9, 7, 19, 1) := ⟨zr_19, "FoldedRows", rfl, by decide, by decide, rfl, rfl, (List.mem_of_getElem? (i := 257) (by decide +kernel)), (zi_tb_of (List.mem_of_getElem? (i := 112) (by decide +kernel)) rfl)⟩
theorem zp_X3_5 : zi_pm zi_recs RX3 (18, 7, 83, 7) := ⟨zr_83, "FoldedRows", rfl, by decide, by decide, rfl, rfl, (List.mem_of_getElem? (i := 259) (by decide +kernel)), (zi_tb_of (List.mem_of_getElem? (i := 79) (by decide +kernel)) rfl)⟩
theorem zp_X3_6 : zi_pm zi_recs RX3 (7, 8, 1, 4) := ⟨(RX1, TX1, 4), rfl, rfl, (zi_tb_of (List.mem_of_getElem? (i := 256) (by decide +kernel)) rfl), (zi_tb_of (List.mem_of_getElem? (i := 110) (by decide +kernel)) rfl), (zi_tb_of (List.mem_of_getElem? (i := 30) (by decide +kernel)) rfl)⟩
theorem zp_X3_7 : zi_pm zi_recs RX3 (16, 8, 7, 4) := ⟨(RX8, TX8, 4), rfl, rfl, (zi_tb_of (List.mem_of_getElem? (i := 258) (by decide +kernel)) rfl), (zi_tb_of (List.mem_of_getElem? (i := 77) (by decide +kernel)) rfl), (zi_tb_of (List.mem_of_getElem? (i := 28) (by decide +kernel)) rfl)⟩
def zpl_X3 : List (Nat × Nat × Nat × Int) := [(10, 0, 3, 0), (19, 0, 3, 1), (23, 0, 3, 2), (1, 12, 1000, 3), (9, 7, 19, 1), (18, 7, 83, 7), (7, 8, 1, 4), (16, 8, 7, 4)]
theorem zpl_X3_ok : ∀ e ∈ zpl_X3, zi_pm zi_recs RX3 e := zp_chain zp_X3_0 (zp_chain zp_X3_1 (zp_chain zp_X3_2 (zp_chain zp_X3_3 (zp_chain zp_X3_4 (zp_chain zp_X3_5 (zp_chain zp_X3_6 (zp_chain zp_X3_7 ( fun e h => absurd h List.not_mem_nil))))))))
theorem zp_X4_0 : zi_pm zi_recs RX4 (9, 0, 4, 0) := ⟨(RX4, TX4, 11), 0, rfl, rfl, by decide, (zi_tb_of (List.mem_of_getElem? (i := 201) (by decide +kernel)) rfl)⟩
theorem zp_X4_1 : zi_pm zi_recs RX4 (15, 0, 4, 1) := ⟨(RX4, TX4, 11), 1, rfl, rfl, by decide, (zi_tb_of (List.mem_of_getElem? (i := 202) (by decide +kernel)) rfl)⟩
theorem zp_X4_2 : zi_pm zi_recs RX4 (18, 0, 4, 2) := ⟨(RX4, TX4, 11), 2, rfl, rfl, by decide, (zi_tb_of (List.mem_of_getElem? (i := 205) (by decide +kernel)) rfl)⟩
theorem zp_X4_3 : zi_pm zi_recs RX4 (21, 0, 4, 3) := ⟨(RX4, TX4, 11), 3, rfl, rfl, by decide, (zi_tb_of (List.mem_of_getElem? (i := 207) (by decide +kernel)) rfl)⟩
theorem zp_X4_4 : zi_pm zi_recs RX4 (25, 0, 4, 4) := ⟨(RX4, TX4, 11), 4, rfl, rfl, by decide, (zi_tb_of (List.mem_of_getElem? (i := 208) (by decide +kernel)) rfl)⟩
theorem zp_X4_5 : zi_pm zi_recs RX4 (28, 0, 4, 5) := ⟨(RX4, TX4, 11), 5, rfl, rfl, by decide, (zi_tb_of (List.mem_of_getElem? (i := 209) (by decide +kernel)) rfl)⟩
theorem zp_X4_6 : zi_pm zi_recs RX4 (31, 0, 4, 6) := ⟨(RX4, TX4, 11), 6, rfl, rfl, by decide, (zi_tb_of (List.mem_of_getElem? (i := 210) (by decide +kernel)) rfl)⟩
theorem zp_X4_7 : zi_pm zi_recs RX4 (34, 0, 4, 7) := ⟨(RX4, TX4, 11), 7, rfl, rfl, by decide, (zi_tb_of (List.mem_of_getElem? (i := 211) (by decide +kernel)) rfl)⟩
theorem zp_X4_8 : zi_pm zi_recs RX4 (37, 0, 4, 8) := ⟨(RX4, TX4, 11), 8, rfl, rfl, by decide, (zi_tb_of (List.mem_of_getElem? (i := 212) (by decide +kernel)) rfl)⟩
theorem zp_X4_9 : zi_pm zi_recs RX4 (40, 0, 4, 9) := ⟨(RX4, TX4, 11), 9, rfl, rfl, by decide, (zi_tb_of (List.mem_of_getElem? (i := 213) (by decide +kernel)) rfl)⟩
theorem zp_X4_10 : zi_pm zi_recs RX4 (43, 0, 4, 10) := ⟨(RX4, TX4, 11), 10, rfl, rfl, by decide, (zi_tb_of (List.mem_of_getElem? (i := 214) (by decide +kernel)) rfl)⟩
theorem zp_X4_11 : zi_pm zi_recs RX4 (52, 1, 7, 2) := ⟨(RX8, TX8, 4), 2, "FoldedRows", rfl, rfl, by decide, (List.mem_of_getElem? (i := 88) (by decide +kernel))⟩
theorem zp_X4_12 : zi_pm zi_recs RX4 (61, 1, 7, 3) := ⟨(RX8, TX8, 4), 3, "FoldedRows", rfl, rfl, by decide, (List.mem_of_getElem? (i := 91) (by decide +kernel))⟩
theorem zp_X4_13 : zi_pm zi_recs RX4 (64, 1, 7, 0) := ⟨(RX8, TX8, 4), 0, "FoldedRows", rfl, rfl, by decide, (List.mem_of_getElem? (i := 83) (by decide +kernel))⟩
theorem zp_X4_14 : zi_pm zi_recs RX4 (3, 12, 1000, 4) := ⟨by decide, by decide, (zi_tb_of (List.mem_of_getElem? (i := 200) (by decide +kernel)) rfl), (zi_tb_of (List.mem_of_getElem? (i := 46) (by decide +kernel)) rfl), (zi_tb_of (List.mem_of_getElem? (i := 47) (by decide +kernel)) rfl)⟩
theorem zp_X4_15 : zi_pm zi_recs RX4 (46, 4, 58, 5) := ⟨zr_58, (RX5, TX5, 3), rfl, rfl, by decide, rfl, (zi_tb_of (List.mem_of_getElem? (i := 307) (by decide +kernel)) rfl), (zi_tb_of (List.mem_of_getElem? (i := 308) (by decide +kernel)) rfl), (zi_tb_of (List.mem_of_getElem? (i := 309) (by decide +kernel)) rfl)⟩
theorem zp_X4_16 : zi_pm zi_recs RX4 (57, 4, 50, 4) := ⟨zr_50, (RX4, TX4, 11), rfl, rfl, by decide, rfl, (zi_tb_of (List.mem_of_getElem? (i := 314) (by decide +kernel)) rfl), (zi_tb_of (List.mem_of_getElem? (i := 316) (by decide +kernel)) rfl), (zi_tb_of (List.mem_of_getElem? (i := 1) (by decide +kernel)) rfl)⟩
theorem zp_X4_17 : zi_pm zi_recs RX4 (67, 13, 1002, 0) := Or.inr (Or.inl ⟨rfl, (zi_tb_of (List.mem_of_getElem? (i := 329) (by decide +kernel)) rfl), (zi_tb_of (List.mem_of_getElem? (i := 330) (by decide +kernel)) rfl), (zi_tb_of (List.mem_of_getElem? (i := 38) (by decide +kernel)) rfl), (zi_tb_of (List.mem_of_getElem? (i := 331) (by decide +kernel)) rfl)⟩)
theorem zp_X4_18 : zi_pm zi_recs RX4 (73, 4, 51, 4) := ⟨zr_51, (RX4, TX4, 11), rfl, rfl, by decide, rfl, (zi_tb_of (List.mem_of_getElem? (i := 332) (by decide +kernel)) rfl), (zi_tb_of (List.mem_of_getElem? (i := 334) (by decide +kernel)) rfl), (zi_tb_of (List.mem_of_getElem? (i := 2) (by decide +kernel)) rfl)⟩
theorem zp_X4_19 : zi_pm zi_recs RX4 (77, 2, 73, 0) := ⟨zr_73, rfl, (zi_tb_of (List.mem_of_getElem? (i := 344) (by decide +kernel)) rfl), (zi_tb_of (List.mem_of_getElem? (i := 345) (by decide +kernel)) rfl)⟩
theorem zp_X4_20 : zi_pm zi_recs RX4 (83, 4, 53, 4) := ⟨zr_53, (RX4, TX4, 11), rfl, rfl, by decide, rfl, (zi_tb_of (List.mem_of_getElem? (i := 347) (by decide +kernel)) rfl), (zi_tb_of (List.mem_of_getElem? (i := 349) (by decide +kernel)) rfl), (zi_tb_of (List.mem_of_getElem? (i := 3) (by decide +kernel)) rfl)⟩
theorem zp_X4_21 : zi_pm zi_recs RX4 (87, 4, 44, 4) := ⟨zr_44, (RX4, TX4, 11), rfl, rfl, by decide, rfl, (zi_tb_of (List.mem_of_getElem? (i := 382) (by decide +kernel)) rfl), (zi_tb_of (List.mem_of_getElem? (i := 383) (by decide +kernel)) rfl), (zi_tb_of (List.mem_of_getElem? (i := 384) (by decide +kernel)) rfl)⟩
theorem zp_X4_22 : zi_pm zi_recs RX4 (90, 4, 52, 4) := ⟨zr_52, (RX4, TX4, 11), rfl, rfl, by decide, rfl, (zi_tb_of (List.mem_of_getElem? (i := 386) (by decide +kernel)) rfl), (zi_tb_of (List.mem_of_getElem? (i := 388) (by decide +kernel)) rfl), (zi_tb_of (List.mem_of_getElem? (i := 5) (by decide +kernel)) rfl)⟩
theorem zp_X4_23 : zi_pm zi_recs RX4 (93, 2, 75, 0) := ⟨zr_75, rfl, (zi_tb_of (List.mem_of_getElem? (i := 646) (by decide +kernel)) rfl), (zi_tb_of (List.mem_of_getElem? (i := 584) (by decide +kernel)) rfl)⟩
theorem zp_X4_24 : zi_pm zi_recs RX4 (97, 2, 72, 0) := ⟨zr_72, rfl, (zi_tb_of (List.mem_of_getElem? (i := 355) (by decide +kernel)) rfl), (zi_tb_of (List.mem_of_getElem? (i := 312) (by decide +kernel)) rfl)⟩
theorem zp_X4_25 : zi_pm zi_recs RX4 (100, 4, 42, 4) := ⟨zr_42, (RX4, TX4, 11), rfl, rfl, by decide, rfl, (zi_tb_of (List.mem_of_getElem? (i := 351) (by decide +kernel)) rfl), (zi_tb_of (List.mem_of_getElem? (i := 352) (by decide +kernel)) rfl), (zi_tb_of (List.mem_of_getElem? (i := 353) (by decide +kernel)) rfl)⟩
theorem zp_X4_26 : zi_pm zi_recs RX4 (103, 4, 41, 4) := ⟨zr_41, (RX4, TX4, 11), rfl, rfl, by decide, rfl, (zi_tb_of (List.mem_of_getElem? (i := 378) (by decide +kernel)) rfl), (zi_tb_of (List.mem_of_getElem? (i := 379) (by decide +kernel)) rfl), (zi_tb_of (List.mem_of_getElem? (i := 380) (by decide +kernel)) rfl)⟩
theorem zp_X4_27 : zi_pm zi_recs RX4 (106, 4, 40, 4) := ⟨zr_40, (RX4, TX4, 11), rfl, rfl, by decide, rfl, (zi_tb_of (List.mem_of_getElem? (i := 693) (by decide +kernel)) rfl), (zi_tb_of (List.mem_of_getElem? (i := 669) (by decide +kernel)) rfl), (zi_tb_of (List.mem_of_getElem? (i := 670) (by decide +kernel)) rfl)⟩
theorem zp_X4_28 : zi_pm zi_recs RX4 (109, 4, 38, 4) := ⟨zr_38, (RX4, TX4, 11), rfl, rfl, by decide, rfl, (zi_tb_of (List.mem_of_getElem? (i := 399) (by decide +kernel)) rfl), (zi_tb_of (List.mem_of_getElem? (i := 400) (by decide +kernel)) rfl), (zi_tb_of (List.mem_of_getElem? (i := 401) (by decide +kernel)) rfl)⟩
theorem zp_X4_29 : zi_pm zi_recs RX4 (113, 4, 47, 4) := ⟨zr_47, (RX4, TX4, 11), rfl, rfl, by decide, rfl, (zi_tb_of (List.mem_of_getElem? (i := 829) (by decide +kernel)) rfl), (zi_tb_of (List.mem_of_getElem? (i := 396) (by decide +kernel)) rfl), (zi_tb_of (List.mem_of_getElem? (i := 397) (by decide +kernel)) rfl)⟩
theorem zp_X4_30 : zi_pm zi_recs RX4 (116, 4, 60, 5) := ⟨zr_60, (RX5, TX5, 3), rfl, rfl, by decide, rfl, (zi_tb_of (List.mem_of_getElem? (i := 318) (by decide +kernel)) rfl), (zi_tb_of (List.mem_of_getElem? (i := 319) (by decide +kernel)) rfl), (zi_tb_of (List.mem_of_getElem? (i := 320) (by decide +kernel)) rfl)⟩
theorem zp_X4_31 : zi_pm zi_recs RX4 (119, 3, 135, 0) := ⟨zr_135, "FoldedRows", rfl, (List.mem_of_getElem? (i := 322) (by decide +kernel)), (zi_tb_of (List.mem_of_getElem? (i := 323) (by decide +kernel)) rfl)⟩
theorem zp_X4_32 : zi_pm zi_recs RX4 (122, 4, 87, 7) := ⟨zr_87, (RX8, TX8, 4), rfl, rfl, by decide, rfl, (zi_tb_of (List.mem_of_getElem? (i := 325) (by decide +kernel)) rfl), (zi_tb_of (List.mem_of_getElem? (i := 326) (by decide +kernel)) rfl), (zi_tb_of (List.mem_of_getElem? (i := 327) (by decide +kernel)) rfl)⟩
theorem zp_X4_33 : zi_pm zi_recs RX4 (125, 3, 134, 0) := ⟨zr_134, "FoldedRows", rfl, (List.mem_of_getElem? (i := 336) (by decide +kernel)), (zi_tb_of (List.mem_of_getElem? (i := 337) (by decide +kernel)) rfl)⟩
theorem zp_X4_34 : zi_pm zi_recs RX4 (128, 3, 137, 0) := ⟨zr_137, "FoldedRows", rfl, (List.mem_of_getElem? (i := 339) (by decide +kernel)), (zi_tb_of (List.mem_of_getElem? (i := 340) (by decide +kernel)) rfl)⟩
theorem zp_X4_35 : zi_pm zi_recs RX4 (131, 4, 43, 4) := ⟨zr_43, (RX4, TX4, 11), rfl, rfl, by decide, rfl, (zi_tb_of (List.mem_of_getElem? (i := 356) (by decide +kernel)) rfl), (zi_tb_of (List.mem_of_getElem? (i := 357) (by decide +kernel)) rfl), (zi_tb_of (List.mem_of_getElem? (i := 358) (by decide +kernel)) rfl)⟩
theorem zp_X4_36 : zi_pm zi_recs RX4 (134, 4, 88, 7) := ⟨zr_88, (RX8, TX8, 4), rfl, rfl, by decide, rfl, (zi_tb_of (List.mem_of_getElem? (i := 360) (by decide +kernel)) rfl), (zi_tb_of (List.mem_of_getElem? (i := 361) (by decide +kernel)) rfl), (zi_tb_of (List.mem_of_getElem? (i := 362) (by decide +kernel)) rfl)⟩
theorem zp_X4_37 : zi_pm zi_recs RX4 (138, 4, 89, 7) := ⟨zr_89, (RX8, TX8, 4), rfl, rfl, by decide, rfl, (zi_tb_of (List.mem_of_getElem? (i := 370) (by decide +kernel)) rfl), (zi_tb_of (List.mem_of_getElem? (i := 371) (by decide +kernel)) rfl), (zi_tb_of (List.mem_of_getElem? (i := 372) (by decide +kernel)) rfl)⟩
theorem zp_X4_38 : zi_pm zi_recs RX4 (142, 4, 54, 4) := ⟨zr_54, (RX4, TX4, 11), rfl, rfl, by decide, rfl, (zi_tb_of (List.mem_of_getElem? (i := 374) (by decide +kernel)) rfl), (zi_tb_of (List.mem_of_getElem? (i := 376) (by decide +kernel)) rfl), (zi_tb_of (List.mem_of_getElem? (i := 4) (by decide +kernel)) rfl)⟩
def zpl_X4 : List (Nat × Nat × Nat × Int) := [(9, 0, 4, 0), (15, 0, 4, 1), (18, 0, 4, 2), (21, 0, 4, 3), (25, 0, 4, 4), (28, 0, 4, 5), (31, 0, 4, 6), (34, 0, 4, 7), (37, 0, 4, 8), (40, 0, 4, 9), (43, 0, 4, 10), (52, 1, 7, 2), (61, 1, 7, 3), (64, 1, 7, 0), (3, 12, 1000, 4), (46, 4, 58, 5), (57, 4, 50, 4), (67, 13, 1002, 0), (73, 4, 51, 4), (77, 2, 73, 0), (83, 4, 53, 4), (87, 4, 44, 4), (90, 4, 52, 4), (93, 2, 75, 0), (97, 2, 72, 0), (100, 4, 42, 4), (103, 4, 41, 4), (106, 4, 40, 4), (109, 4, 38, 4), (113, 4, 47, 4), (116, 4, 60, 5), (119, 3, 135, 0), (122, 4, 87, 7), (125, 3, 134, 0), (128, 3, 137, 0), (131, 4, 43, 4), (134, 4, 88, 7), (138, 4, 89, 7), (142, 4, 54, 4)]
theorem zpl_X4_ok : ∀ e ∈ zpl_X4, zi_pm zi_recs RX4 e := zp_chain zp_X4_0 (zp_chain zp_X4_1 (zp_chain zp_X4_2 (zp_chain zp_X4_3 (zp_chain zp_X4_4 (zp_chain zp_X4_5 (zp_chain zp_X4_6 (zp_chain zp_X4_7 (zp_chain zp_X4_8 (zp_chain zp_X4_9 (zp_chain zp_X4_10 (zp_chain zp_X4_11 (zp_chain zp_X4_12 (zp_chain zp_X4_13 (zp_chain zp_X4_14 (zp_chain zp_X4_15 (zp_chain zp_X4_16 (zp_chain zp_X4_17 (zp_chain zp_X4_18 (zp_chain zp_X4_19 (zp_chain zp_X4_20 (zp_chain zp_X4_21 (zp_chain zp_X4_22 (zp_chain zp_X4_23 (zp_chain zp_X4_24 (zp_chain zp_X4_25 (zp_chain zp_X4_26 (zp_chain zp_X4_27 (zp_chain zp_X4_28 (zp_chain zp_X4_29 (zp_chain zp_X4_30 (zp_chain zp_X4_31 (zp_chain zp_X4_32 (zp_chain zp_X4_33 (zp_chain zp_X4_34 (zp_chain zp_X4_35 (zp_chain zp_X4_36 (zp_chain zp_X4_37 (zp_chain zp_X4_38 ( fun e h => absurd h List.not_mem_nil)))))))))))))))))))))))))))))))))))))))
theorem zp_X5_0 : zi_pm zi_recs RX5 (9, 0, 5, 0) := ⟨(RX5, TX5, 3), 0, rfl, rfl, by decide, (zi_tb_of (List.mem_of_getElem? (i := 121) (by decide +kernel)) rfl)⟩
theorem zp_X5_1 : zi_pm zi_recs RX5 (15, 0, 5, 1) := ⟨(RX5, TX5, 3), 1, rfl, rfl, by decide, (zi_tb_of (List.mem_of_getElem? (i := 126) (by decide +kernel)) rfl)⟩
theorem zp_X5_2 : zi_pm zi_recs RX5 (19, 0, 5, 2) := ⟨(RX5, TX5, 3), 2, rfl, rfl, by decide, (zi_tb_of (List.mem_of_getElem? (i := 127) (by decide +kernel)) rfl)⟩
theorem zp_X5_3 : zi_pm zi_recs RX5 (3, 12, 1000, 5) := ⟨by decide, by decide, (zi_tb_of (List.mem_of_getElem? (i := 120) (by decide +kernel)) rfl), (zi_tb_of (List.mem_of_getElem? (i := 46) (by decide +kernel)) rfl), (zi_tb_of (List.mem_of_getElem? (i := 47) (by decide +kernel)) rfl)⟩
theorem zp_X5_4 : zi_pm zi_recs RX5 (22, 4, 56, 5) := ⟨zr_56, (RX5, TX5, 3), rfl, rfl, by decide, rfl, (zi_tb_of (List.mem_of_getElem? (i := 663) (by decide +kernel)) rfl), (zi_tb_of (List.mem_of_getElem? (i := 637) (by decide +kernel)) rfl), (zi_tb_of (List.mem_of_getElem? (i := 638) (by decide +kernel)) rfl)⟩
theorem zp_X5_5 : zi_pm zi_recs RX5 (26, 4, 58, 5) := ⟨zr_58, (RX5, TX5, 3), rfl, rfl, by decide, rfl, (zi_tb_of (List.mem_of_getElem? (i := 558) (by decide +kernel)) rfl), (zi_tb_of (List.mem_of_getElem? (i := 308) (by decide +kernel)) rfl), (zi_tb_of (List.mem_of_getElem? (i := 309) (by decide +kernel)) rfl)⟩
theorem zp_X5_6 : zi_pm zi_recs RX5 (30, 2, 72, 0) := ⟨zr_72, rfl, (zi_tb_of (List.mem_of_getElem? (i := 311) (by decide +kernel)) rfl), (zi_tb_of (List.mem_of_getElem? (i := 312) (by decide +kernel)) rfl)⟩
theorem zp_X5_7 : zi_pm zi_recs RX5 (36, 2, 75, 0) := ⟨zr_75, rfl, (zi_tb_of (List.mem_of_getElem? (i := 583) (by decide +kernel)) rfl), (zi_tb_of (List.mem_of_getElem? (i := 584) (by decide +kernel)) rfl)⟩
theorem zp_X5_8 : zi_pm zi_recs RX5 (39, 2, 73, 0) := ⟨zr_73, rfl, (zi_tb_of (List.mem_of_getElem? (i := 496) (by decide +kernel)) rfl), (zi_tb_of (List.mem_of_getElem? (i := 345) (by decide +kernel)) rfl)⟩
theorem zp_X5_9 : zi_pm zi_recs RX5 (43, 4, 60, 5) := ⟨zr_60, (RX5, TX5, 3), rfl, rfl, by decide, rfl, (zi_tb_of (List.mem_of_getElem? (i := 760) (by decide +kernel)) rfl), (zi_tb_of (List.mem_of_getElem? (i := 319) (by decide +kernel)) rfl), (zi_tb_of (List.mem_of_getElem? (i := 320) (by decide +kernel)) rfl)⟩
theorem zp_X5_10 : zi_pm zi_recs RX5 (47, 4, 71, 5) := ⟨zr_71, (RX5, TX5, 3), rfl, rfl, by decide, rfl, (zi_tb_of (List.mem_of_getElem? (i := 761) (by decide +kernel)) rfl), (zi_tb_of (List.mem_of_getElem? (i := 763) (by decide +kernel)) rfl), (zi_tb_of (List.mem_of_getElem? (i := 19) (by decide +kernel)) rfl)⟩
theorem zp_X5_11 : zi_pm zi_recs RX5 (51, 4, 69, 5) := ⟨zr_69, (RX5, TX5, 3), rfl, rfl, by decide, rfl, (zi_tb_of (List.mem_of_getElem? (i := 787) (by decide +kernel)) rfl), (zi_tb_of (List.mem_of_getElem? (i := 789) (by decide +kernel)) rfl), (zi_tb_of (List.mem_of_getElem? (i := 23) (by decide +kernel)) rfl)⟩
theorem zp_X5_12 : zi_pm zi_recs RX5 (55, 4, 70, 5) := ⟨zr_70, (RX5, TX5, 3), rfl, rfl, by decide, rfl, (zi_tb_of (List.mem_of_getElem? (i := 782) (by decide +kernel)) rfl), (zi_tb_of (List.mem_of_getElem? (i := 784) (by decide +kernel)) rfl), (zi_tb_of (List.mem_of_getElem? (i := 22) (by decide +kernel)) rfl)⟩
theorem zp_X5_13 : zi_pm zi_recs RX5 (58, 2, 74, 0) := ⟨zr_74, rfl, (zi_tb_of (List.mem_of_getElem? (i := 744) (by decide +kernel)) rfl), (zi_tb_of (List.mem_of_getElem? (i := 745) (by decide +kernel)) rfl)⟩
theorem zp_X5_14 : zi_pm zi_recs RX5 (62, 4, 63, 5) := ⟨zr_63, (RX5, TX5, 3), rfl, rfl, by decide, rfl, (zi_tb_of (List.mem_of_getElem? (i := 786) (by decide +kernel)) rfl), (zi_tb_of (List.mem_of_getElem? (i := 555) (by decide +kernel)) rfl), (zi_tb_of (List.mem_of_getElem? (i := 556) (by decide +kernel)) rfl)⟩
def zpl_X5 : List (Nat × Nat × Nat × Int) := [(9, 0, 5, 0), (15, 0, 5, 1), (19, 0, 5, 2), (3, 12, 1000, 5), (22, 4, 56, 5), (26, 4, 58, 5), (30, 2, 72, 0), (36, 2, 75, 0), (39, 2, 73, 0), (43, 4, 60, 5), (47, 4, 71, 5), (51, 4, 69, 5), (55, 4, 70, 5), (58, 2, 74, 0), (62, 4, 63, 5)]
theorem zpl_X5_ok : ∀ e ∈ zpl_X5, zi_pm zi_recs RX5 e := zp_chain zp_X5_0 (zp_chain zp_X5_1 (zp_chain zp_X5_2 (zp_chain zp_X5_3 (zp_chain zp_X5_4 (zp_chain zp_X5_5 (zp_chain zp_X5_6 (zp_chain zp_X5_7 (zp_chain zp_X5_8 (zp_chain zp_X5_9 (zp_chain zp_X5_10 (zp_chain zp_X5_11 (zp_chain zp_X5_12 (zp_chain zp_X5_13 (zp_chain zp_X5_14 ( fun e h => absurd h List.not_mem_nil)))))))))))))))
theorem zp_X6_0 : zi_pm zi_recs RX6 (7, 13, 1002, 0) := Or.inr (Or.inl ⟨rfl, (zi_tb_of (List.mem_of_getElem? (i := 747) (by decide +kernel)) rfl), (zi_tb_of (List.mem_of_getElem? (i := 330) (by decide +kernel)) rfl), (zi_tb_of (List.mem_of_getElem? (i := 38) (by decide +kernel)) rfl), (zi_tb_of (List.mem_of_getElem? (i := 331) (by decide +kernel)) rfl)⟩)
theorem zp_X6_1 : zi_pm zi_recs RX6 (13, 13, 1005, 0) := Or.inr (Or.inr (Or.inr (Or.inr (⟨rfl, (zi_tb_of (List.mem_of_getElem? (i := 748) (by decide +kernel)) rfl), (zi_tb_of (List.mem_of_getElem? (i := 750) (by decide +kernel)) rfl), (zi_tb_of (List.mem_of_getElem? (i := 749) (by decide +kernel)) rfl), (zi_tb_of (List.mem_of_getElem? (i := 39) (by decide +kernel)) rfl)⟩))))
theorem zp_X6_2 : zi_pm zi_recs RX6 (19, 2, 72, 0) := ⟨zr_72, rfl, (zi_tb_of (List.mem_of_getElem? (i := 586) (by decide +kernel)) rfl), (zi_tb_of (List.mem_of_getElem? (i := 312) (by decide +kernel)) rfl)⟩
def zpl_X6 : List (Nat × Nat × Nat × Int) := [(7, 13, 1002, 0), (13, 13, 1005, 0), (19, 2, 72, 0)]
theorem zpl_X6_ok : ∀ e ∈ zpl_X6, zi_pm zi_recs RX6 e := zp_chain zp_X6_0 (zp_chain zp_X6_1 (zp_chain zp_X6_2 ( fun e h => absurd h List.not_mem_nil)))
theorem zp_X7_0 : zi_pm zi_recs RX7 (11, 0, 6, 0) := ⟨(RX7, TX7, 2), 0, rfl, rfl, by decide, (zi_tb_of (List.mem_of_getElem? (i := 238) (by decide +kernel)) rfl)⟩
theorem zp_X7_1 : zi_pm zi_recs RX7 (18, 0, 6, 1) := ⟨(RX7, TX7, 2), 1, rfl, rfl, by decide, (zi_tb_of (List.mem_of_getElem? (i := 239) (by decide +kernel)) rfl)⟩
theorem zp_X7_2 : zi_pm zi_recs RX7 (22, 1, 5, 0) := ⟨(RX5, TX5, 3), 0, "FoldedRows", rfl, rfl, by decide, (List.mem_of_getElem? (i := 122) (by decide +kernel))⟩
theorem zp_X7_3 : zi_pm zi_recs RX7 (36, 1, 1, 0) := ⟨(RX1, TX1, 4), 0, "FoldedRows", rfl, rfl, by decide, (List.mem_of_getElem? (i := 157) (by decide +kernel))⟩
theorem zp_X7_4 : zi_pm zi_recs RX7 (46, 1, 1, 1) := ⟨(RX1, TX1, 4), 1, "FoldedRows", rfl, rfl, by decide, (List.mem_of_getElem? (i := 161) (by decide +kernel))⟩
theorem zp_X7_5 : zi_pm zi_recs RX7 (56, 1, 4, 1) := ⟨(RX4, TX4, 11), 1, "FoldedRows", rfl, rfl, by decide, (List.mem_of_getElem? (i := 203) (by decide +kernel))⟩
theorem zp_X7_6 : zi_pm zi_recs RX7 (3, 12, 1000, 6) := ⟨by decide, by decide, (zi_tb_of (List.mem_of_getElem? (i := 193) (by decide +kernel)) rfl), (zi_tb_of (List.mem_of_getElem? (i := 46) (by decide +kernel)) rfl), (zi_tb_of (List.mem_of_getElem? (i := 47) (by decide +kernel)) rfl)⟩
theorem zp_X7_7 : zi_pm zi_recs RX7 (17, 7, 33, 4) := ⟨zr_33, "FoldedRows", rfl, by decide, by decide, rfl, rfl, (List.mem_of_getElem? (i := 197) (by decide +kernel)), (zi_tb_of (List.mem_of_getElem? (i := 198) (by decide +kernel)) rfl)⟩
theorem zp_X7_8 : zi_pm zi_recs RX7 (28, 4, 77, 6) := ⟨zr_77, (RX7, TX7, 2), rfl, rfl, by decide, rfl, (zi_tb_of (List.mem_of_getElem? (i := 299) (by decide +kernel)) rfl), (zi_tb_of (List.mem_of_getElem? (i := 300) (by decide +kernel)) rfl), (zi_tb_of (List.mem_of_getElem? (i := 301) (by decide +kernel)) rfl)⟩
theorem zp_X7_9 : zi_pm zi_recs RX7 (32, 4, 34, 4) := ⟨zr_34, (RX4, TX4, 11), rfl, rfl, by decide, rfl, (zi_tb_of (List.mem_of_getElem? (i := 303) (by decide +kernel)) rfl), (zi_tb_of (List.mem_of_getElem? (i := 304) (by decide +kernel)) rfl), (zi_tb_of (List.mem_of_getElem? (i := 305) (by decide +kernel)) rfl)⟩
theorem zp_X7_10 : zi_pm zi_recs RX7 (42, 4, 80, 6) := ⟨zr_80, (RX7, TX7, 2), rfl, rfl, by decide, rfl, (zi_tb_of (List.mem_of_getElem? (i := 591) (by decide +kernel)) rfl), (zi_tb_of (List.mem_of_getElem? (i := 592) (by decide +kernel)) rfl), (zi_tb_of (List.mem_of_getElem? (i := 593) (by decide +kernel)) rfl)⟩
theorem zp_X7_11 : zi_pm zi_recs RX7 (50, 4, 8, 0) := ⟨zr_8, (RX0, TX0, 4), rfl, rfl, by decide, rfl, (zi_tb_of (List.mem_of_getElem? (i := 595) (by decide +kernel)) rfl), (zi_tb_of (List.mem_of_getElem? (i := 596) (by decide +kernel)) rfl), (zi_tb_of (List.mem_of_getElem? (i := 597) (by decide +kernel)) rfl)⟩
theorem zp_X7_12 : zi_pm zi_recs RX7 (59, 4, 40, 4) := ⟨zr_40, (RX4, TX4, 11), rfl, rfl, by decide, rfl, (zi_tb_of (List.mem_of_getElem? (i := 668) (by decide +kernel)) rfl), (zi_tb_of (List.mem_of_getElem? (i := 669) (by decide +kernel)) rfl), (zi_tb_of (List.mem_of_getElem? (i := 670) (by decide +kernel)) rfl)⟩
theorem zp_X7_13 : zi_pm zi_recs RX7 (9, 8, 4, 11) := ⟨(RX4, TX4, 11), rfl, rfl, (zi_tb_of (List.mem_of_getElem? (i := 194) (by decide +kernel)) rfl), (zi_tb_of (List.mem_of_getElem? (i := 196) (by decide +kernel)) rfl), (zi_tb_of (List.mem_of_getElem? (i := 34) (by decide +kernel)) rfl)⟩
theorem zp_X7_14 : zi_pm zi_recs RX7 (9, 9, 16, 0) := ⟨"FoldedRows$LaidLine", rfl, (zi_tb_of (List.mem_of_getElem? (i := 194) (by decide +kernel)) rfl), (List.mem_of_getElem? (i := 195) (by decide +kernel))⟩
def zpl_X7 : List (Nat × Nat × Nat × Int) := [(11, 0, 6, 0), (18, 0, 6, 1), (22, 1, 5, 0), (36, 1, 1, 0), (46, 1, 1, 1), (56, 1, 4, 1), (3, 12, 1000, 6), (17, 7, 33, 4), (28, 4, 77, 6), (32, 4, 34, 4), (42, 4, 80, 6), (50, 4, 8, 0), (59, 4, 40, 4), (9, 8, 4, 11), (9, 9, 16, 0)]
theorem zpl_X7_ok : ∀ e ∈ zpl_X7, zi_pm zi_recs RX7 e := zp_chain zp_X7_0 (zp_chain zp_X7_1 (zp_chain zp_X7_2 (zp_chain zp_X7_3 (zp_chain zp_X7_4 (zp_chain zp_X7_5 (zp_chain zp_X7_6 (zp_chain zp_X7_7 (zp_chain zp_X7_8 (zp_chain zp_X7_9 (zp_chain zp_X7_10 (zp_chain zp_X7_11 (zp_chain zp_X7_12 (zp_chain zp_X7_13 (zp_chain zp_X7_14 ( fun e h => absurd h List.not_mem_nil)))))))))))))))
theorem zp_X8_0 : zi_pm zi_recs RX8 (9, 0, 7, 0) := ⟨(RX8, TX8, 4), 0, rfl, rfl, by decide, (zi_tb_of (List.mem_of_getElem? (i := 82) (by decide +kernel)) rfl)⟩
theorem zp_X8_1 : zi_pm zi_recs RX8 (15, 0, 7, 1) := ⟨(RX8, TX8, 4), 1, rfl, rfl, by decide, (zi_tb_of (List.mem_of_getElem? (i := 85) (by decide +kernel)) rfl)⟩
theorem zp_X8_2 : zi_pm zi_recs RX8 (18, 0, 7, 2) := ⟨(RX8, TX8, 4), 2, rfl, rfl, by decide, (zi_tb_of (List.mem_of_getElem? (i := 87) (by decide +kernel)) rfl)⟩
theorem zp_X8_3 : zi_pm zi_recs RX8 (21, 0, 7, 3) := ⟨(RX8, TX8, 4), 3, rfl, rfl, by decide, (zi_tb_of (List.mem_of_getElem? (i := 90) (by decide +kernel)) rfl)⟩
theorem zp_X8_4 : zi_pm zi_recs RX8 (3, 12, 1000, 7) := ⟨by decide, by decide, (zi_tb_of (List.mem_of_getElem? (i := 81) (by decide +kernel)) rfl), (zi_tb_of (List.mem_of_getElem? (i := 46) (by decide +kernel)) rfl), (zi_tb_of (List.mem_of_getElem? (i := 47) (by decide +kernel)) rfl)⟩
theorem zp_X8_5 : zi_pm zi_recs RX8 (24, 3, 134, 0) := ⟨zr_134, "FoldedRows", rfl, (List.mem_of_getElem? (i := 364) (by decide +kernel)), (zi_tb_of (List.mem_of_getElem? (i := 337) (by decide +kernel)) rfl)⟩
theorem zp_X8_6 : zi_pm zi_recs RX8 (28, 4, 87, 7) := ⟨zr_87, (RX8, TX8, 4), rfl, rfl, by decide, rfl, (zi_tb_of (List.mem_of_getElem? (i := 365) (by decide +kernel)) rfl), (zi_tb_of (List.mem_of_getElem? (i := 326) (by decide +kernel)) rfl), (zi_tb_of (List.mem_of_getElem? (i := 327) (by decide +kernel)) rfl)⟩
theorem zp_X8_7 : zi_pm zi_recs RX8 (32, 13, 1001, 0) := Or.inl ⟨rfl, (zi_tb_of (List.mem_of_getElem? (i := 366) (by decide +kernel)) rfl), (zi_tb_of (List.mem_of_getElem? (i := 367) (by decide +kernel)) rfl), (zi_tb_of (List.mem_of_getElem? (i := 38) (by decide +kernel)) rfl), (zi_tb_of (List.mem_of_getElem? (i := 368) (by decide +kernel)) rfl)⟩
theorem zp_X8_8 : zi_pm zi_recs RX8 (38, 13, 1002, 0) := Or.inr (Or.inl ⟨rfl, (zi_tb_of (List.mem_of_getElem? (i := 369) (by decide +kernel)) rfl), (zi_tb_of (List.mem_of_getElem? (i := 330) (by decide +kernel)) rfl), (zi_tb_of (List.mem_of_getElem? (i := 38) (by decide +kernel)) rfl), (zi_tb_of (List.mem_of_getElem? (i := 331) (by decide +kernel)) rfl)⟩)
def zpl_X8 : List (Nat × Nat × Nat × Int) := [(9, 0, 7, 0), (15, 0, 7, 1), (18, 0, 7, 2), (21, 0, 7, 3), (3, 12, 1000, 7), (24, 3, 134, 0), (28, 4, 87, 7), (32, 13, 1001, 0), (38, 13, 1002, 0)]
theorem zpl_X8_ok : ∀ e ∈ zpl_X8, zi_pm zi_recs RX8 e := zp_chain zp_X8_0 (zp_chain zp_X8_1 (zp_chain zp_X8_2 (zp_chain zp_X8_3 (zp_chain zp_X8_4 (zp_chain zp_X8_5 (zp_chain zp_X8_6 (zp_chain zp_X8_7 (zp_chain zp_X8_8 ( fun e h => absurd h List.not_mem_nil)))))))))
theorem zp_X9_0 : zi_pm zi_recs RX9 (9, 0, 8, 0) := ⟨(RX9, TX9, 4), 0, rfl, rfl, by decide, (zi_tb_of (List.mem_of_getElem? (i := 278) (by decide +kernel)) rfl)⟩
theorem zp_X9_1 : zi_pm zi_recs RX9 (15, 0, 8, 1) := ⟨(RX9, TX9, 4), 1, rfl, rfl, by decide, (zi_tb_of (List.mem_of_getElem? (i := 279) (by decide +kernel)) rfl)⟩
theorem zp_X9_2 : zi_pm zi_recs RX9 (19, 0, 8, 2) := ⟨(RX9, TX9, 4), 2, rfl, rfl, by decide, (zi_tb_of (List.mem_of_getElem? (i := 280) (by decide +kernel)) rfl)⟩
theorem zp_X9_3 : zi_pm zi_recs RX9 (22, 0, 8, 3) := ⟨(RX9, TX9, 4), 3, rfl, rfl, by decide, (zi_tb_of (List.mem_of_getElem? (i := 281) (by decide +kernel)) rfl)⟩
theorem zp_X9_4 : zi_pm zi_recs RX9 (3, 12, 1000, 8) := ⟨by decide, by decide, (zi_tb_of (List.mem_of_getElem? (i := 277) (by decide +kernel)) rfl), (zi_tb_of (List.mem_of_getElem? (i := 46) (by decide +kernel)) rfl), (zi_tb_of (List.mem_of_getElem? (i := 47) (by decide +kernel)) rfl)⟩
def zpl_X9 : List (Nat × Nat × Nat × Int) := [(9, 0, 8, 0), (15, 0, 8, 1), (19, 0, 8, 2), (22, 0, 8, 3), (3, 12, 1000, 8)]
theorem zpl_X9_ok : ∀ e ∈ zpl_X9, zi_pm zi_recs RX9 e := zp_chain zp_X9_0 (zp_chain zp_X9_1 (zp_chain zp_X9_2 (zp_chain zp_X9_3 (zp_chain zp_X9_4 ( fun e h => absurd h List.not_mem_nil)))))
theorem zp_X10_0 : zi_pm zi_recs RX10 (9, 0, 9, 0) := ⟨(RX10, TX10, 6), 0, rfl, rfl, by decide, (zi_tb_of (List.mem_of_getElem? (i := 54) (by decide +kernel)) rfl)⟩
theorem zp_X10_1 : zi_pm zi_recs RX10 (15, 0, 9, 1) := ⟨(RX10, TX10, 6), 1, rfl, rfl, by decide, (zi_tb_of (List.mem_of_getElem? (i := 55) (by decide +kernel)) rfl)⟩
theorem zp_X10_2 : zi_pm zi_recs RX10 (18, 0, 9, 2) := ⟨(RX10, TX10, 6), 2, rfl, rfl, by decide, (zi_tb_of (List.mem_of_getElem? (i := 56) (by decide +kernel)) rfl)⟩
theorem zp_X10_3 : zi_pm zi_recs RX10 (22, 0, 9, 3) := ⟨(RX10, TX10, 6), 3, rfl, rfl, by decide, (zi_tb_of (List.mem_of_getElem? (i := 58) (by decide +kernel)) rfl)⟩
theorem zp_X10_4 : zi_pm zi_recs RX10 (25, 0, 9, 4) := ⟨(RX10, TX10, 6), 4, rfl, rfl, by decide, (zi_tb_of (List.mem_of_getElem? (i := 60) (by decide +kernel)) rfl)⟩
theorem zp_X10_5 : zi_pm zi_recs RX10 (28, 0, 9, 5) := ⟨(RX10, TX10, 6), 5, rfl, rfl, by decide, (zi_tb_of (List.mem_of_getElem? (i := 61) (by decide +kernel)) rfl)⟩
theorem zp_X10_6 : zi_pm zi_recs RX10 (50, 1, 1, 0) := ⟨(RX1, TX1, 4), 0, "FoldedRows", rfl, rfl, by decide, (List.mem_of_getElem? (i := 156) (by decide +kernel))⟩
theorem zp_X10_7 : zi_pm zi_recs RX10 (58, 1, 5, 0) := ⟨(RX5, TX5, 3), 0, "FoldedRows", rfl, rfl, by decide, (List.mem_of_getElem? (i := 124) (by decide +kernel))⟩
theorem zp_X10_8 : zi_pm zi_recs RX10 (67, 1, 1, 1) := ⟨(RX1, TX1, 4), 1, "FoldedRows", rfl, rfl, by decide, (List.mem_of_getElem? (i := 160) (by decide +kernel))⟩
theorem zp_X10_9 : zi_pm zi_recs RX10 (3, 12, 1000, 9) := ⟨by decide, by decide, (zi_tb_of (List.mem_of_getElem? (i := 53) (by decide +kernel)) rfl), (zi_tb_of (List.mem_of_getElem? (i := 46) (by decide +kernel)) rfl), (zi_tb_of (List.mem_of_getElem? (i := 47) (by decide +kernel)) rfl)⟩
theorem zp_X10_10 : zi_pm zi_recs RX10 (31, 2, 73, 0) := ⟨zr_73, rfl, (zi_tb_of (List.mem_of_getElem? (i := 462) (by decide +kernel)) rfl), (zi_tb_of (List.mem_of_getElem? (i := 345) (by decide +kernel)) rfl)⟩
theorem zp_X10_11 : zi_pm zi_recs RX10 (37, 4, 20, 1) := ⟨zr_20, (RX1, TX1, 4), rfl, rfl, by decide, rfl, (zi_tb_of (List.mem_of_getElem? (i := 488) (by decide +kernel)) rfl), (zi_tb_of (List.mem_of_getElem? (i := 489) (by decide +kernel)) rfl), (zi_tb_of (List.mem_of_getElem? (i := 490) (by decide +kernel)) rfl)⟩
theorem zp_X10_12 : zi_pm zi_recs RX10 (42, 2, 72, 0) := ⟨zr_72, rfl, (zi_tb_of (List.mem_of_getElem? (i := 501) (by decide +kernel)) rfl), (zi_tb_of (List.mem_of_getElem? (i := 312) (by decide +kernel)) rfl)⟩
theorem zp_X10_13 : zi_pm zi_recs RX10 (46, 4, 94, 9) := ⟨zr_94, (RX10, TX10, 6), rfl, rfl, by decide, rfl, (zi_tb_of (List.mem_of_getElem? (i := 502) (by decide +kernel)) rfl), (zi_tb_of (List.mem_of_getElem? (i := 504) (by decide +kernel)) rfl), (zi_tb_of (List.mem_of_getElem? (i := 9) (by decide +kernel)) rfl)⟩
theorem zp_X10_14 : zi_pm zi_recs RX10 (54, 4, 95, 9) := ⟨zr_95, (RX10, TX10, 6), rfl, rfl, by decide, rfl, (zi_tb_of (List.mem_of_getElem? (i := 506) (by decide +kernel)) rfl), (zi_tb_of (List.mem_of_getElem? (i := 508) (by decide +kernel)) rfl), (zi_tb_of (List.mem_of_getElem? (i := 10) (by decide +kernel)) rfl)⟩
theorem zp_X10_15 : zi_pm zi_recs RX10 (63, 4, 96, 9) := ⟨zr_96, (RX10, TX10, 6), rfl, rfl, by decide, rfl, (zi_tb_of (List.mem_of_getElem? (i := 514) (by decide +kernel)) rfl), (zi_tb_of (List.mem_of_getElem? (i := 516) (by decide +kernel)) rfl), (zi_tb_of (List.mem_of_getElem? (i := 11) (by decide +kernel)) rfl)⟩
theorem zp_X10_16 : zi_pm zi_recs RX10 (71, 4, 97, 9) := ⟨zr_97, (RX10, TX10, 6), rfl, rfl, by decide, rfl, (zi_tb_of (List.mem_of_getElem? (i := 518) (by decide +kernel)) rfl), (zi_tb_of (List.mem_of_getElem? (i := 520) (by decide +kernel)) rfl), (zi_tb_of (List.mem_of_getElem? (i := 12) (by decide +kernel)) rfl)⟩
theorem zp_X10_17 : zi_pm zi_recs RX10 (75, 3, 136, 0) := ⟨zr_136, "FoldedRows", rfl, (List.mem_of_getElem? (i := 550) (by decide +kernel)), (zi_tb_of (List.mem_of_getElem? (i := 551) (by decide +kernel)) rfl)⟩
theorem zp_X10_18 : zi_pm zi_recs RX10 (79, 4, 58, 5) := ⟨zr_58, (RX5, TX5, 3), rfl, rfl, by decide, rfl, (zi_tb_of (List.mem_of_getElem? (i := 553) (by decide +kernel)) rfl), (zi_tb_of (List.mem_of_getElem? (i := 308) (by decide +kernel)) rfl), (zi_tb_of (List.mem_of_getElem? (i := 309) (by decide +kernel)) rfl)⟩
theorem zp_X10_19 : zi_pm zi_recs RX10 (82, 4, 63, 5) := ⟨zr_63, (RX5, TX5, 3), rfl, rfl, by decide, rfl, (zi_tb_of (List.mem_of_getElem? (i := 554) (by decide +kernel)) rfl), (zi_tb_of (List.mem_of_getElem? (i := 555) (by decide +kernel)) rfl), (zi_tb_of (List.mem_of_getElem? (i := 556) (by decide +kernel)) rfl)⟩
theorem zp_X10_20 : zi_pm zi_recs RX10 (86, 4, 62, 5) := ⟨zr_62, (RX5, TX5, 3), rfl, rfl, by decide, rfl, (zi_tb_of (List.mem_of_getElem? (i := 510) (by decide +kernel)) rfl), (zi_tb_of (List.mem_of_getElem? (i := 511) (by decide +kernel)) rfl), (zi_tb_of (List.mem_of_getElem? (i := 512) (by decide +kernel)) rfl)⟩
theorem zp_X10_21 : zi_pm zi_recs RX10 (89, 4, 10, 0) := ⟨zr_10, (RX0, TX0, 4), rfl, rfl, by decide, rfl, (zi_tb_of (List.mem_of_getElem? (i := 522) (by decide +kernel)) rfl), (zi_tb_of (List.mem_of_getElem? (i := 523) (by decide +kernel)) rfl), (zi_tb_of (List.mem_of_getElem? (i := 524) (by decide +kernel)) rfl)⟩
theorem zp_X10_22 : zi_pm zi_recs RX10 (95, 4, 11, 0) := ⟨zr_11, (RX0, TX0, 4), rfl, rfl, by decide, rfl, (zi_tb_of (List.mem_of_getElem? (i := 538) (by decide +kernel)) rfl), (zi_tb_of (List.mem_of_getElem? (i := 539) (by decide +kernel)) rfl), (zi_tb_of (List.mem_of_getElem? (i := 540) (by decide +kernel)) rfl)⟩
def zpl_X10 : List (Nat × Nat × Nat × Int) := [(9, 0, 9, 0), (15, 0, 9, 1), (18, 0, 9, 2), (22, 0, 9, 3), (25, 0, 9, 4), (28, 0, 9, 5), (50, 1, 1, 0), (58, 1, 5, 0), (67, 1, 1, 1), (3, 12, 1000, 9), (31, 2, 73, 0), (37, 4, 20, 1), (42, 2, 72, 0), (46, 4, 94, 9), (54, 4, 95, 9), (63, 4, 96, 9), (71, 4, 97, 9), (75, 3, 136, 0), (79, 4, 58, 5), (82, 4, 63, 5), (86, 4, 62, 5), (89, 4, 10, 0), (95, 4, 11, 0)]
theorem zpl_X10_ok : ∀ e ∈ zpl_X10, zi_pm zi_recs RX10 e := zp_chain zp_X10_0 (zp_chain zp_X10_1 (zp_chain zp_X10_2 (zp_chain zp_X10_3 (zp_chain zp_X10_4 (zp_chain zp_X10_5 (zp_chain zp_X10_6 (zp_chain zp_X10_7 (zp_chain zp_X10_8 (zp_chain zp_X10_9 (zp_chain zp_X10_10 (zp_chain zp_X10_11 (zp_chain zp_X10_12 (zp_chain zp_X10_13 (zp_chain zp_X10_14 (zp_chain zp_X10_15 (zp_chain zp_X10_16 (zp_chain zp_X10_17 (zp_chain zp_X10_18 (zp_chain zp_X10_19 (zp_chain zp_X10_20 (zp_chain zp_X10_21 (zp_chain zp_X10_22 ( fun e h => absurd h List.not_mem_nil)))))))))))))))))))))))
theorem zp_X11_0 : zi_pm zi_recs RX11 (10, 0, 10, 0) := ⟨(RX11, TX11, 10), 0, rfl, rfl, by decide, (zi_tb_of (List.mem_of_getElem? (i := 412) (by decide +kernel)) rfl)⟩
theorem zp_X11_1 : zi_pm zi_recs RX11 (19, 0, 10, 1) := ⟨(RX11, TX11, 10), 1, rfl, rfl, by decide, (zi_tb_of (List.mem_of_getElem? (i := 413) (by decide +kernel)) rfl)⟩
theorem zp_X11_2 : zi_pm zi_recs RX11 (26, 0, 10, 2) := ⟨(RX11, TX11, 10), 2, rfl, rfl, by decide, (zi_tb_of (List.mem_of_getElem? (i := 414) (by decide +kernel)) rfl)⟩
theorem zp_X11_3 : zi_pm zi_recs RX11 (33, 0, 10, 3) := ⟨(RX11, TX11, 10), 3, rfl, rfl, by decide, (zi_tb_of (List.mem_of_getElem? (i := 415) (by decide +kernel)) rfl)⟩
theorem zp_X11_4 : zi_pm zi_recs RX11 (39, 0, 10, 4) := ⟨(RX11, TX11, 10), 4, rfl, rfl, by decide, (zi_tb_of (List.mem_of_getElem? (i := 416) (by decide +kernel)) rfl)⟩
theorem zp_X11_5 : zi_pm zi_recs RX11 (45, 0, 10, 5) := ⟨(RX11, TX11, 10), 5, rfl, rfl, by decide, (zi_tb_of (List.mem_of_getElem? (i := 417) (by decide +kernel)) rfl)⟩
theorem zp_X11_6 : zi_pm zi_recs RX11 (52, 0, 10, 6) := ⟨(RX11, TX11, 10), 6, rfl, rfl, by decide, (zi_tb_of (List.mem_of_getElem? (i := 418) (by decide +kernel)) rfl)⟩
theorem zp_X11_7 : zi_pm zi_recs RX11 (56, 0, 10, 7) := ⟨(RX11, TX11, 10), 7, rfl, rfl, by decide, (zi_tb_of (List.mem_of_getElem? (i := 419) (by decide +kernel)) rfl)⟩
theorem zp_X11_8 : zi_pm zi_recs RX11 (59, 0, 10, 8) := ⟨(RX11, TX11, 10), 8, rfl, rfl, by decide, (zi_tb_of (List.mem_of_getElem? (i := 420) (by decide +kernel)) rfl)⟩
theorem zp_X11_9 : zi_pm zi_recs RX11 (63, 0, 10, 9) := ⟨(RX11, TX11, 10), 9, rfl, rfl, by decide, (zi_tb_of (List.mem_of_getElem? (i := 421) (by decide +kernel)) rfl)⟩
theorem zp_X11_10 : zi_pm zi_recs RX11 (75, 1, 9, 2) := ⟨(RX10, TX10, 6), 2, "FoldedRows", rfl, rfl, by decide, (List.mem_of_getElem? (i := 57) (by decide +kernel))⟩
theorem zp_X11_11 : zi_pm zi_recs RX11 (82, 1, 9, 3) := ⟨(RX10, TX10, 6), 3, "FoldedRows", rfl, rfl, by decide, (List.mem_of_getElem? (i := 59) (by decide +kernel))⟩
theorem zp_X11_12 : zi_pm zi_recs RX11 (92, 1, 1, 0) := ⟨(RX1, TX1, 4), 0, "FoldedRows", rfl, rfl, by decide, (List.mem_of_getElem? (i := 158) (by decide +kernel))⟩
theorem zp_X11_13 : zi_pm zi_recs RX11 (96, 1, 5, 0) := ⟨(RX5, TX5, 3), 0, "FoldedRows", rfl, rfl, by decide, (List.mem_of_getElem? (i := 125) (by decide +kernel))⟩
theorem zp_X11_14 : zi_pm zi_recs RX11 (111, 1, 1, 1) := ⟨(RX1, TX1, 4), 1, "FoldedRows", rfl, rfl, by decide, (List.mem_of_getElem? (i := 162) (by decide +kernel))⟩
theorem zp_X11_15 : zi_pm zi_recs RX11 (115, 1, 0, 0) := ⟨(RX0, TX0, 4), 0, "FoldedRows", rfl, rfl, by decide, (List.mem_of_getElem? (i := 142) (by decide +kernel))⟩
theorem zp_X11_16 : zi_pm zi_recs RX11 (121, 1, 7, 0) := ⟨(RX8, TX8, 4), 0, "FoldedRows", rfl, rfl, by decide, (List.mem_of_getElem? (i := 84) (by decide +kernel))⟩
theorem zp_X11_17 : zi_pm zi_recs RX11 (124, 1, 7, 1) := ⟨(RX8, TX8, 4), 1, "FoldedRows", rfl, rfl, by decide, (List.mem_of_getElem? (i := 86) (by decide +kernel))⟩
theorem zp_X11_18 : zi_pm zi_recs RX11 (127, 1, 7, 2) := ⟨(RX8, TX8, 4), 2, "FoldedRows", rfl, rfl, by decide, (List.mem_of_getElem? (i := 89) (by decide +kernel))⟩
theorem zp_X11_19 : zi_pm zi_recs RX11 (130, 1, 7, 3) := ⟨(RX8, TX8, 4), 3, "FoldedRows", rfl, rfl, by decide, (List.mem_of_getElem? (i := 92) (by decide +kernel))⟩
theorem zp_X11_20 : zi_pm zi_recs RX11 (133, 1, 2, 1) := ⟨(RX2, TX2, 3), 1, "FoldedRows", rfl, rfl, by decide, (List.mem_of_getElem? (i := 178) (by decide +kernel))⟩
theorem zp_X11_21 : zi_pm zi_recs RX11 (136, 1, 2, 2) := ⟨(RX2, TX2, 3), 2, "FoldedRows", rfl, rfl, by decide, (List.mem_of_getElem? (i := 180) (by decide +kernel))⟩
theorem zp_X11_22 : zi_pm zi_recs RX11 (157, 1, 4, 1) := ⟨(RX4, TX4, 11), 1, "FoldedRows", rfl, rfl, by decide, (List.mem_of_getElem? (i := 204) (by decide +kernel))⟩
theorem zp_X11_23 : zi_pm zi_recs RX11 (169, 1, 4, 2) := ⟨(RX4, TX4, 11), 2, "FoldedRows", rfl, rfl, by decide, (List.mem_of_getElem? (i := 206) (by decide +kernel))⟩
theorem zp_X11_24 : zi_pm zi_recs RX11 (229, 1, 1, 2) := ⟨(RX1, TX1, 4), 2, "FoldedRows", rfl, rfl, by decide, (List.mem_of_getElem? (i := 164) (by decide +kernel))⟩
theorem zp_X11_25 : zi_pm zi_recs RX11 (232, 1, 1, 3) := ⟨(RX1, TX1, 4), 3, "FoldedRows", rfl, rfl, by decide, (List.mem_of_getElem? (i := 166) (by decide +kernel))⟩
theorem zp_X11_26 : zi_pm zi_recs RX11 (331, 1, 3, 2) := ⟨(RX3, TX3, 3), 2, "FoldedRows", rfl, rfl, by decide, (List.mem_of_getElem? (i := 265) (by decide +kernel))⟩
theorem zp_X11_27 : zi_pm zi_recs RX11 (335, 1, 3, 0) := ⟨(RX3, TX3, 3), 0, "FoldedRows", rfl, rfl, by decide, (List.mem_of_getElem? (i := 261) (by decide +kernel))⟩
theorem zp_X11_28 : zi_pm zi_recs RX11 (341, 1, 3, 1) := ⟨(RX3, TX3, 3), 1, "FoldedRows", rfl, rfl, by decide, (List.mem_of_getElem? (i := 263) (by decide +kernel))⟩
theorem zp_X11_29 : zi_pm zi_recs RX11 (1, 12, 1000, 10) := ⟨by decide, by decide, (zi_tb_of (List.mem_of_getElem? (i := 45) (by decide +kernel)) rfl), (zi_tb_of (List.mem_of_getElem? (i := 46) (by decide +kernel)) rfl), (zi_tb_of (List.mem_of_getElem? (i := 47) (by decide +kernel)) rfl)⟩
theorem zp_X11_30 : zi_pm zi_recs RX11 (9, 7, 91, 9) := ⟨zr_91, "FoldedRows", rfl, by decide, by decide, rfl, rfl, (List.mem_of_getElem? (i := 50) (by decide +kernel)), (zi_tb_of (List.mem_of_getElem? (i := 51) (by decide +kernel)) rfl)⟩
theorem zp_X11_31 : zi_pm zi_recs RX11 (18, 7, 83, 7) := ⟨zr_83, "FoldedRows", rfl, by decide, by decide, rfl, rfl, (List.mem_of_getElem? (i := 78) (by decide +kernel)), (zi_tb_of (List.mem_of_getElem? (i := 79) (by decide +kernel)) rfl)⟩
theorem zp_X11_32 : zi_pm zi_recs RX11 (25, 6, 25, 2) := ⟨zr_25, rfl, by decide, by decide, rfl, rfl, (zi_tb_of (List.mem_of_getElem? (i := 104) (by decide +kernel)) rfl), (zi_tb_of (List.mem_of_getElem? (i := 105) (by decide +kernel)) rfl)⟩
theorem zp_X11_33 : zi_pm zi_recs RX11 (32, 6, 76, 6) := ⟨zr_76, rfl, by decide, by decide, rfl, rfl, (zi_tb_of (List.mem_of_getElem? (i := 190) (by decide +kernel)) rfl), (zi_tb_of (List.mem_of_getElem? (i := 191) (by decide +kernel)) rfl)⟩
theorem zp_X11_34 : zi_pm zi_recs RX11 (51, 7, 19, 1) := ⟨zr_19, "FoldedRows", rfl, by decide, by decide, rfl, rfl, (List.mem_of_getElem? (i := 250) (by decide +kernel)), (zi_tb_of (List.mem_of_getElem? (i := 112) (by decide +kernel)) rfl)⟩
theorem zp_X11_35 : zi_pm zi_recs RX11 (66, 7, 32, 3) := ⟨zr_32, "FoldedRows", rfl, by decide, by decide, rfl, rfl, (List.mem_of_getElem? (i := 252) (by decide +kernel)), (zi_tb_of (List.mem_of_getElem? (i := 253) (by decide +kernel)) rfl)⟩
theorem zp_X11_36 : zi_pm zi_recs RX11 (67, 7, 90, 8) := ⟨zr_90, "FoldedRows", rfl, by decide, by decide, rfl, rfl, (List.mem_of_getElem? (i := 274) (by decide +kernel)), (zi_tb_of (List.mem_of_getElem? (i := 275) (by decide +kernel)) rfl)⟩
theorem zp_X11_37 : zi_pm zi_recs RX11 (68, 4, 125, 10) := ⟨zr_125, (RX11, TX11, 10), rfl, rfl, by decide, rfl, (zi_tb_of (List.mem_of_getElem? (i := 291) (by decide +kernel)) rfl), (zi_tb_of (List.mem_of_getElem? (i := 293) (by decide +kernel)) rfl), (zi_tb_of (List.mem_of_getElem? (i := 0) (by decide +kernel)) rfl)⟩
theorem zp_X11_38 : zi_pm zi_recs RX11 (71, 4, 92, 9) := ⟨zr_92, (RX10, TX10, 6), rfl, rfl, by decide, rfl, (zi_tb_of (List.mem_of_getElem? (i := 458) (by decide +kernel)) rfl), (zi_tb_of (List.mem_of_getElem? (i := 459) (by decide +kernel)) rfl), (zi_tb_of (List.mem_of_getElem? (i := 460) (by decide +kernel)) rfl)⟩
theorem zp_X11_39 : zi_pm zi_recs RX11 (78, 4, 93, 9) := ⟨zr_93, (RX10, TX10, 6), rfl, rfl, by decide, rfl, (zi_tb_of (List.mem_of_getElem? (i := 484) (by decide +kernel)) rfl), (zi_tb_of (List.mem_of_getElem? (i := 485) (by decide +kernel)) rfl), (zi_tb_of (List.mem_of_getElem? (i := 486) (by decide +kernel)) rfl)⟩
theorem zp_X11_40 : zi_pm zi_recs RX11 (85, 4, 26, 2) := ⟨zr_26, (RX2, TX2, 3), rfl, rfl, by decide, rfl, (zi_tb_of (List.mem_of_getElem? (i := 559) (by decide +kernel)) rfl), (zi_tb_of (List.mem_of_getElem? (i := 560) (by decide +kernel)) rfl), (zi_tb_of (List.mem_of_getElem? (i := 561) (by decide +kernel)) rfl)⟩
theorem zp_X11_41 : zi_pm zi_recs RX11 (88, 4, 132, 10) := ⟨zr_132, (RX11, TX11, 10), rfl, rfl, by decide, rfl, (zi_tb_of (List.mem_of_getElem? (i := 563) (by decide +kernel)) rfl), (zi_tb_of (List.mem_of_getElem? (i := 565) (by decide +kernel)) rfl), (zi_tb_of (List.mem_of_getElem? (i := 14) (by decide +kernel)) rfl)⟩
theorem zp_X11_42 : zi_pm zi_recs RX11 (101, 4, 59, 5) := ⟨zr_59, (RX5, TX5, 3), rfl, rfl, by decide, rfl, (zi_tb_of (List.mem_of_getElem? (i := 579) (by decide +kernel)) rfl), (zi_tb_of (List.mem_of_getElem? (i := 580) (by decide +kernel)) rfl), (zi_tb_of (List.mem_of_getElem? (i := 581) (by decide +kernel)) rfl)⟩
theorem zp_X11_43 : zi_pm zi_recs RX11 (105, 4, 79, 6) := ⟨zr_79, (RX7, TX7, 2), rfl, rfl, by decide, rfl, (zi_tb_of (List.mem_of_getElem? (i := 587) (by decide +kernel)) rfl), (zi_tb_of (List.mem_of_getElem? (i := 588) (by decide +kernel)) rfl), (zi_tb_of (List.mem_of_getElem? (i := 589) (by decide +kernel)) rfl)⟩
theorem zp_X11_44 : zi_pm zi_recs RX11 (108, 4, 22, 1) := ⟨zr_22, (RX1, TX1, 4), rfl, rfl, by decide, rfl, (zi_tb_of (List.mem_of_getElem? (i := 603) (by decide +kernel)) rfl), (zi_tb_of (List.mem_of_getElem? (i := 604) (by decide +kernel)) rfl), (zi_tb_of (List.mem_of_getElem? (i := 605) (by decide +kernel)) rfl)⟩
theorem zp_X11_45 : zi_pm zi_recs RX11 (118, 4, 6, 0) := ⟨zr_6, (RX0, TX0, 4), rfl, rfl, by decide, rfl, (zi_tb_of (List.mem_of_getElem? (i := 608) (by decide +kernel)) rfl), (zi_tb_of (List.mem_of_getElem? (i := 609) (by decide +kernel)) rfl), (zi_tb_of (List.mem_of_getElem? (i := 610) (by decide +kernel)) rfl)⟩
theorem zp_X11_46 : zi_pm zi_recs RX11 (139, 4, 131, 10) := ⟨zr_131, (RX11, TX11, 10), rfl, rfl, by decide, rfl, (zi_tb_of (List.mem_of_getElem? (i := 613) (by decide +kernel)) rfl), (zi_tb_of (List.mem_of_getElem? (i := 615) (by decide +kernel)) rfl), (zi_tb_of (List.mem_of_getElem? (i := 16) (by decide +kernel)) rfl)⟩
theorem zp_X11_47 : zi_pm zi_recs RX11 (142, 4, 56, 5) := ⟨zr_56, (RX5, TX5, 3), rfl, rfl, by decide, rfl, (zi_tb_of (List.mem_of_getElem? (i := 636) (by decide +kernel)) rfl), (zi_tb_of (List.mem_of_getElem? (i := 637) (by decide +kernel)) rfl), (zi_tb_of (List.mem_of_getElem? (i := 638) (by decide +kernel)) rfl)⟩
theorem zp_X11_48 : zi_pm zi_recs RX11 (145, 4, 58, 5) := ⟨zr_58, (RX5, TX5, 3), rfl, rfl, by decide, rfl, (zi_tb_of (List.mem_of_getElem? (i := 640) (by decide +kernel)) rfl), (zi_tb_of (List.mem_of_getElem? (i := 308) (by decide +kernel)) rfl), (zi_tb_of (List.mem_of_getElem? (i := 309) (by decide +kernel)) rfl)⟩
theorem zp_X11_49 : zi_pm zi_recs RX11 (149, 4, 60, 5) := ⟨zr_60, (RX5, TX5, 3), rfl, rfl, by decide, rfl, (zi_tb_of (List.mem_of_getElem? (i := 890) (by decide +kernel)) rfl), (zi_tb_of (List.mem_of_getElem? (i := 319) (by decide +kernel)) rfl), (zi_tb_of (List.mem_of_getElem? (i := 320) (by decide +kernel)) rfl)⟩
theorem zp_X11_50 : zi_pm zi_recs RX11 (153, 4, 77, 6) := ⟨zr_77, (RX7, TX7, 2), rfl, rfl, by decide, rfl, (zi_tb_of (List.mem_of_getElem? (i := 394) (by decide +kernel)) rfl), (zi_tb_of (List.mem_of_getElem? (i := 300) (by decide +kernel)) rfl), (zi_tb_of (List.mem_of_getElem? (i := 301) (by decide +kernel)) rfl)⟩
theorem zp_X11_51 : zi_pm zi_recs RX11 (162, 4, 8, 0) := ⟨zr_8, (RX0, TX0, 4), rfl, rfl, by decide, rfl, (zi_tb_of (List.mem_of_getElem? (i := 641) (by decide +kernel)) rfl), (zi_tb_of (List.mem_of_getElem? (i := 596) (by decide +kernel)) rfl), (zi_tb_of (List.mem_of_getElem? (i := 597) (by decide +kernel)) rfl)⟩
theorem zp_X11_52 : zi_pm zi_recs RX11 (165, 4, 80, 6) := ⟨zr_80, (RX7, TX7, 2), rfl, rfl, by decide, rfl, (zi_tb_of (List.mem_of_getElem? (i := 628) (by decide +kernel)) rfl), (zi_tb_of (List.mem_of_getElem? (i := 592) (by decide +kernel)) rfl), (zi_tb_of (List.mem_of_getElem? (i := 593) (by decide +kernel)) rfl)⟩
theorem zp_X11_53 : zi_pm zi_recs RX11 (172, 4, 35, 4) := ⟨zr_35, (RX4, TX4, 11), rfl, rfl, by decide, rfl, (zi_tb_of (List.mem_of_getElem? (i := 642) (by decide +kernel)) rfl), (zi_tb_of (List.mem_of_getElem? (i := 643) (by decide +kernel)) rfl), (zi_tb_of (List.mem_of_getElem? (i := 644) (by decide +kernel)) rfl)⟩
theorem zp_X11_54 : zi_pm zi_recs RX11 (175, 4, 36, 4) := ⟨zr_36, (RX4, TX4, 11), rfl, rfl, by decide, rfl, (zi_tb_of (List.mem_of_getElem? (i := 647) (by decide +kernel)) rfl), (zi_tb_of (List.mem_of_getElem? (i := 648) (by decide +kernel)) rfl), (zi_tb_of (List.mem_of_getElem? (i := 649) (by decide +kernel)) rfl)⟩
theorem zp_X11_55 : zi_pm zi_recs RX11 (178, 4, 37, 4) := ⟨zr_37, (RX4, TX4, 11), rfl, rfl, by decide, rfl, (zi_tb_of (List.mem_of_getElem? (i := 651) (by decide +kernel)) rfl), (zi_tb_of (List.mem_of_getElem? (i := 652) (by decide +kernel)) rfl), (zi_tb_of (List.mem_of_getElem? (i := 653) (by decide +kernel)) rfl)⟩
theorem zp_X11_56 : zi_pm zi_recs RX11 (181, 4, 82, 6) := ⟨zr_82, (RX7, TX7, 2), rfl, rfl, by decide, rfl, (zi_tb_of (List.mem_of_getElem? (i := 624) (by decide +kernel)) rfl), (zi_tb_of (List.mem_of_getElem? (i := 625) (by decide +kernel)) rfl), (zi_tb_of (List.mem_of_getElem? (i := 626) (by decide +kernel)) rfl)⟩
theorem zp_X11_57 : zi_pm zi_recs RX11 (184, 4, 42, 4) := ⟨zr_42, (RX4, TX4, 11), rfl, rfl, by decide, rfl, (zi_tb_of (List.mem_of_getElem? (i := 629) (by decide +kernel)) rfl), (zi_tb_of (List.mem_of_getElem? (i := 352) (by decide +kernel)) rfl), (zi_tb_of (List.mem_of_getElem? (i := 353) (by decide +kernel)) rfl)⟩
theorem zp_X11_58 : zi_pm zi_recs RX11 (187, 4, 43, 4) := ⟨zr_43, (RX4, TX4, 11), rfl, rfl, by decide, rfl, (zi_tb_of (List.mem_of_getElem? (i := 630) (by decide +kernel)) rfl), (zi_tb_of (List.mem_of_getElem? (i := 357) (by decide +kernel)) rfl), (zi_tb_of (List.mem_of_getElem? (i := 358) (by decide +kernel)) rfl)⟩
theorem zp_X11_59 : zi_pm zi_recs RX11 (190, 4, 44, 4) := ⟨zr_44, (RX4, TX4, 11), rfl, rfl, by decide, rfl, (zi_tb_of (List.mem_of_getElem? (i := 631) (by decide +kernel)) rfl), (zi_tb_of (List.mem_of_getElem? (i := 383) (by decide +kernel)) rfl), (zi_tb_of (List.mem_of_getElem? (i := 384) (by decide +kernel)) rfl)⟩
theorem zp_X11_60 : zi_pm zi_recs RX11 (193, 4, 45, 4) := ⟨zr_45, (RX4, TX4, 11), rfl, rfl, by decide, rfl, (zi_tb_of (List.mem_of_getElem? (i := 681) (by decide +kernel)) rfl), (zi_tb_of (List.mem_of_getElem? (i := 682) (by decide +kernel)) rfl), (zi_tb_of (List.mem_of_getElem? (i := 683) (by decide +kernel)) rfl)⟩
theorem zp_X11_61 : zi_pm zi_recs RX11 (196, 4, 57, 5) := ⟨zr_57, (RX5, TX5, 3), rfl, rfl, by decide, rfl, (zi_tb_of (List.mem_of_getElem? (i := 659) (by decide +kernel)) rfl), (zi_tb_of (List.mem_of_getElem? (i := 660) (by decide +kernel)) rfl), (zi_tb_of (List.mem_of_getElem? (i := 661) (by decide +kernel)) rfl)⟩
theorem zp_X11_62 : zi_pm zi_recs RX11 (200, 4, 81, 6) := ⟨zr_81, (RX7, TX7, 2), rfl, rfl, by decide, rfl, (zi_tb_of (List.mem_of_getElem? (i := 664) (by decide +kernel)) rfl), (zi_tb_of (List.mem_of_getElem? (i := 665) (by decide +kernel)) rfl), (zi_tb_of (List.mem_of_getElem? (i := 666) (by decide +kernel)) rfl)⟩
theorem zp_X11_63 : zi_pm zi_recs RX11 (204, 4, 41, 4) := ⟨zr_41, (RX4, TX4, 11), rfl, rfl, by decide, rfl, (zi_tb_of (List.mem_of_getElem? (i := 411) (by decide +kernel)) rfl), (zi_tb_of (List.mem_of_getElem? (i := 379) (by decide +kernel)) rfl), (zi_tb_of (List.mem_of_getElem? (i := 380) (by decide +kernel)) rfl)⟩
theorem zp_X11_64 : zi_pm zi_recs RX11 (207, 4, 38, 4) := ⟨zr_38, (RX4, TX4, 11), rfl, rfl, by decide, rfl, (zi_tb_of (List.mem_of_getElem? (i := 672) (by decide +kernel)) rfl), (zi_tb_of (List.mem_of_getElem? (i := 400) (by decide +kernel)) rfl), (zi_tb_of (List.mem_of_getElem? (i := 401) (by decide +kernel)) rfl)⟩
theorem zp_X11_65 : zi_pm zi_recs RX11 (210, 4, 39, 4) := ⟨zr_39, (RX4, TX4, 11), rfl, rfl, by decide, rfl, (zi_tb_of (List.mem_of_getElem? (i := 673) (by decide +kernel)) rfl), (zi_tb_of (List.mem_of_getElem? (i := 674) (by decide +kernel)) rfl), (zi_tb_of (List.mem_of_getElem? (i := 675) (by decide +kernel)) rfl)⟩
theorem zp_X11_66 : zi_pm zi_recs RX11 (213, 4, 46, 4) := ⟨zr_46, (RX4, TX4, 11), rfl, rfl, by decide, rfl, (zi_tb_of (List.mem_of_getElem? (i := 689) (by decide +kernel)) rfl), (zi_tb_of (List.mem_of_getElem? (i := 690) (by decide +kernel)) rfl), (zi_tb_of (List.mem_of_getElem? (i := 691) (by decide +kernel)) rfl)⟩
theorem zp_X11_67 : zi_pm zi_recs RX11 (216, 4, 1, 0) := ⟨zr_1, (RX0, TX0, 4), rfl, rfl, by decide, rfl, (zi_tb_of (List.mem_of_getElem? (i := 709) (by decide +kernel)) rfl), (zi_tb_of (List.mem_of_getElem? (i := 710) (by decide +kernel)) rfl), (zi_tb_of (List.mem_of_getElem? (i := 711) (by decide +kernel)) rfl)⟩
theorem zp_X11_68 : zi_pm zi_recs RX11 (217, 4, 2, 0) := ⟨zr_2, (RX0, TX0, 4), rfl, rfl, by decide, rfl, (zi_tb_of (List.mem_of_getElem? (i := 713) (by decide +kernel)) rfl), (zi_tb_of (List.mem_of_getElem? (i := 527) (by decide +kernel)) rfl), (zi_tb_of (List.mem_of_getElem? (i := 528) (by decide +kernel)) rfl)⟩
theorem zp_X11_69 : zi_pm zi_recs RX11 (220, 4, 3, 0) := ⟨zr_3, (RX0, TX0, 4), rfl, rfl, by decide, rfl, (zi_tb_of (List.mem_of_getElem? (i := 714) (by decide +kernel)) rfl), (zi_tb_of (List.mem_of_getElem? (i := 532) (by decide +kernel)) rfl), (zi_tb_of (List.mem_of_getElem? (i := 533) (by decide +kernel)) rfl)⟩
theorem zp_X11_70 : zi_pm zi_recs RX11 (223, 4, 4, 0) := ⟨zr_4, (RX0, TX0, 4), rfl, rfl, by decide, rfl, (zi_tb_of (List.mem_of_getElem? (i := 715) (by decide +kernel)) rfl), (zi_tb_of (List.mem_of_getElem? (i := 600) (by decide +kernel)) rfl), (zi_tb_of (List.mem_of_getElem? (i := 601) (by decide +kernel)) rfl)⟩
theorem zp_X11_71 : zi_pm zi_recs RX11 (226, 4, 7, 0) := ⟨zr_7, (RX0, TX0, 4), rfl, rfl, by decide, rfl, (zi_tb_of (List.mem_of_getElem? (i := 716) (by decide +kernel)) rfl), (zi_tb_of (List.mem_of_getElem? (i := 717) (by decide +kernel)) rfl), (zi_tb_of (List.mem_of_getElem? (i := 718) (by decide +kernel)) rfl)⟩
theorem zp_X11_72 : zi_pm zi_recs RX11 (235, 4, 129, 10) := ⟨zr_129, (RX11, TX11, 10), rfl, rfl, by decide, rfl, (zi_tb_of (List.mem_of_getElem? (i := 698) (by decide +kernel)) rfl), (zi_tb_of (List.mem_of_getElem? (i := 700) (by decide +kernel)) rfl), (zi_tb_of (List.mem_of_getElem? (i := 17) (by decide +kernel)) rfl)⟩
theorem zp_X11_73 : zi_pm zi_recs RX11 (238, 4, 130, 10) := ⟨zr_130, (RX11, TX11, 10), rfl, rfl, by decide, rfl, (zi_tb_of (List.mem_of_getElem? (i := 407) (by decide +kernel)) rfl), (zi_tb_of (List.mem_of_getElem? (i := 409) (by decide +kernel)) rfl), (zi_tb_of (List.mem_of_getElem? (i := 8) (by decide +kernel)) rfl)⟩
theorem zp_X11_74 : zi_pm zi_recs RX11 (241, 4, 128, 10) := ⟨zr_128, (RX11, TX11, 10), rfl, rfl, by decide, rfl, (zi_tb_of (List.mem_of_getElem? (i := 403) (by decide +kernel)) rfl), (zi_tb_of (List.mem_of_getElem? (i := 405) (by decide +kernel)) rfl), (zi_tb_of (List.mem_of_getElem? (i := 7) (by decide +kernel)) rfl)⟩
theorem zp_X11_75 : zi_pm zi_recs RX11 (245, 4, 49, 4) := ⟨zr_49, (RX4, TX4, 11), rfl, rfl, by decide, rfl, (zi_tb_of (List.mem_of_getElem? (i := 796) (by decide +kernel)) rfl), (zi_tb_of (List.mem_of_getElem? (i := 797) (by decide +kernel)) rfl), (zi_tb_of (List.mem_of_getElem? (i := 798) (by decide +kernel)) rfl)⟩
theorem zp_X11_76 : zi_pm zi_recs RX11 (248, 4, 48, 4) := ⟨zr_48, (RX4, TX4, 11), rfl, rfl, by decide, rfl, (zi_tb_of (List.mem_of_getElem? (i := 825) (by decide +kernel)) rfl), (zi_tb_of (List.mem_of_getElem? (i := 826) (by decide +kernel)) rfl), (zi_tb_of (List.mem_of_getElem? (i := 827) (by decide +kernel)) rfl)⟩
theorem zp_X11_77 : zi_pm zi_recs RX11 (251, 4, 23, 1) := ⟨zr_23, (RX1, TX1, 4), rfl, rfl, by decide, rfl, (zi_tb_of (List.mem_of_getElem? (i := 830) (by decide +kernel)) rfl), (zi_tb_of (List.mem_of_getElem? (i := 831) (by decide +kernel)) rfl), (zi_tb_of (List.mem_of_getElem? (i := 832) (by decide +kernel)) rfl)⟩
theorem zp_X11_78 : zi_pm zi_recs RX11 (254, 4, 24, 1) := ⟨zr_24, (RX1, TX1, 4), rfl, rfl, by decide, rfl, (zi_tb_of (List.mem_of_getElem? (i := 834) (by decide +kernel)) rfl), (zi_tb_of (List.mem_of_getElem? (i := 835) (by decide +kernel)) rfl), (zi_tb_of (List.mem_of_getElem? (i := 836) (by decide +kernel)) rfl)⟩
theorem zp_X11_79 : zi_pm zi_recs RX11 (259, 13, 1004, 0) := Or.inr (Or.inr (Or.inr (Or.inl ⟨rfl, (zi_tb_of (List.mem_of_getElem? (i := 843) (by decide +kernel)) rfl), (zi_tb_of (List.mem_of_getElem? (i := 844) (by decide +kernel)) rfl), (zi_tb_of (List.mem_of_getElem? (i := 38) (by decide +kernel)) rfl), (zi_tb_of (List.mem_of_getElem? (i := 845) (by decide +kernel)) rfl)⟩)))
theorem zp_X11_80 : zi_pm zi_recs RX11 (265, 13, 1003, 0) := Or.inr (Or.inr (Or.inl ⟨rfl, (zi_tb_of (List.mem_of_getElem? (i := 846) (by decide +kernel)) rfl), (zi_tb_of (List.mem_of_getElem? (i := 847) (by decide +kernel)) rfl), (zi_tb_of (List.mem_of_getElem? (i := 38) (by decide +kernel)) rfl), (zi_tb_of (List.mem_of_getElem? (i := 848) (by decide +kernel)) rfl)⟩))
theorem zp_X11_81 : zi_pm zi_recs RX11 (268, 4, 40, 4) := ⟨zr_40, (RX4, TX4, 11), rfl, rfl, by decide, rfl, (zi_tb_of (List.mem_of_getElem? (i := 878) (by decide +kernel)) rfl), (zi_tb_of (List.mem_of_getElem? (i := 669) (by decide +kernel)) rfl), (zi_tb_of (List.mem_of_getElem? (i := 670) (by decide +kernel)) rfl)⟩
theorem zp_X11_82 : zi_pm zi_recs RX11 (271, 2, 136, 0) := ⟨zr_136, rfl, (zi_tb_of (List.mem_of_getElem? (i := 727) (by decide +kernel)) rfl), (zi_tb_of (List.mem_of_getElem? (i := 551) (by decide +kernel)) rfl)⟩
theorem zp_X11_83 : zi_pm zi_recs RX11 (274, 4, 27, 2) := ⟨zr_27, (RX2, TX2, 3), rfl, rfl, by decide, rfl, (zi_tb_of (List.mem_of_getElem? (i := 728) (by decide +kernel)) rfl), (zi_tb_of (List.mem_of_getElem? (i := 729) (by decide +kernel)) rfl), (zi_tb_of (List.mem_of_getElem? (i := 730) (by decide +kernel)) rfl)⟩
theorem zp_X11_84 : zi_pm zi_recs RX11 (278, 4, 64, 5) := ⟨zr_64, (RX5, TX5, 3), rfl, rfl, by decide, rfl, (zi_tb_of (List.mem_of_getElem? (i := 756) (by decide +kernel)) rfl), (zi_tb_of (List.mem_of_getElem? (i := 757) (by decide +kernel)) rfl), (zi_tb_of (List.mem_of_getElem? (i := 758) (by decide +kernel)) rfl)⟩
theorem zp_X11_85 : zi_pm zi_recs RX11 (282, 4, 126, 10) := ⟨zr_126, (RX11, TX11, 10), rfl, rfl, by decide, rfl, (zi_tb_of (List.mem_of_getElem? (i := 765) (by decide +kernel)) rfl), (zi_tb_of (List.mem_of_getElem? (i := 767) (by decide +kernel)) rfl), (zi_tb_of (List.mem_of_getElem? (i := 20) (by decide +kernel)) rfl)⟩
theorem zp_X11_86 : zi_pm zi_recs RX11 (285, 4, 124, 10) := ⟨zr_124, (RX11, TX11, 10), rfl, rfl, by decide, rfl, (zi_tb_of (List.mem_of_getElem? (i := 774) (by decide +kernel)) rfl), (zi_tb_of (List.mem_of_getElem? (i := 776) (by decide +kernel)) rfl), (zi_tb_of (List.mem_of_getElem? (i := 21) (by decide +kernel)) rfl)⟩
theorem zp_X11_87 : zi_pm zi_recs RX11 (288, 13, 1001, 0) := Or.inl ⟨rfl, (zi_tb_of (List.mem_of_getElem? (i := 800) (by decide +kernel)) rfl), (zi_tb_of (List.mem_of_getElem? (i := 367) (by decide +kernel)) rfl), (zi_tb_of (List.mem_of_getElem? (i := 38) (by decide +kernel)) rfl), (zi_tb_of (List.mem_of_getElem? (i := 368) (by decide +kernel)) rfl)⟩
theorem zp_X11_88 : zi_pm zi_recs RX11 (290, 4, 65, 5) := ⟨zr_65, (RX5, TX5, 3), rfl, rfl, by decide, rfl, (zi_tb_of (List.mem_of_getElem? (i := 801) (by decide +kernel)) rfl), (zi_tb_of (List.mem_of_getElem? (i := 802) (by decide +kernel)) rfl), (zi_tb_of (List.mem_of_getElem? (i := 803) (by decide +kernel)) rfl)⟩
theorem zp_X11_89 : zi_pm zi_recs RX11 (293, 4, 9, 0) := ⟨zr_9, (RX0, TX0, 4), rfl, rfl, by decide, rfl, (zi_tb_of (List.mem_of_getElem? (i := 809) (by decide +kernel)) rfl), (zi_tb_of (List.mem_of_getElem? (i := 810) (by decide +kernel)) rfl), (zi_tb_of (List.mem_of_getElem? (i := 811) (by decide +kernel)) rfl)⟩
theorem zp_X11_90 : zi_pm zi_recs RX11 (296, 4, 66, 5) := ⟨zr_66, (RX5, TX5, 3), rfl, rfl, by decide, rfl, (zi_tb_of (List.mem_of_getElem? (i := 813) (by decide +kernel)) rfl), (zi_tb_of (List.mem_of_getElem? (i := 814) (by decide +kernel)) rfl), (zi_tb_of (List.mem_of_getElem? (i := 815) (by decide +kernel)) rfl)⟩
theorem zp_X11_91 : zi_pm zi_recs RX11 (299, 4, 13, 0) := ⟨zr_13, (RX0, TX0, 4), rfl, rfl, by decide, rfl, (zi_tb_of (List.mem_of_getElem? (i := 817) (by decide +kernel)) rfl), (zi_tb_of (List.mem_of_getElem? (i := 818) (by decide +kernel)) rfl), (zi_tb_of (List.mem_of_getElem? (i := 819) (by decide +kernel)) rfl)⟩
theorem zp_X11_92 : zi_pm zi_recs RX11 (302, 4, 28, 2) := ⟨zr_28, (RX2, TX2, 3), rfl, rfl, by decide, rfl, (zi_tb_of (List.mem_of_getElem? (i := 895) (by decide +kernel)) rfl), (zi_tb_of (List.mem_of_getElem? (i := 896) (by decide +kernel)) rfl), (zi_tb_of (List.mem_of_getElem? (i := 897) (by decide +kernel)) rfl)⟩
theorem zp_X11_93 : zi_pm zi_recs RX11 (306, 4, 29, 2) := ⟨zr_29, (RX2, TX2, 3), rfl, rfl, by decide, rfl, (zi_tb_of (List.mem_of_getElem? (i := 907) (by decide +kernel)) rfl), (zi_tb_of (List.mem_of_getElem? (i := 908) (by decide +kernel)) rfl), (zi_tb_of (List.mem_of_getElem? (i := 909) (by decide +kernel)) rfl)⟩
theorem zp_X11_94 : zi_pm zi_recs RX11 (309, 4, 10, 0) := ⟨zr_10, (RX0, TX0, 4), rfl, rfl, by decide, rfl, (zi_tb_of (List.mem_of_getElem? (i := 864) (by decide +kernel)) rfl), (zi_tb_of (List.mem_of_getElem? (i := 523) (by decide +kernel)) rfl), (zi_tb_of (List.mem_of_getElem? (i := 524) (by decide +kernel)) rfl)⟩
theorem zp_X11_95 : zi_pm zi_recs RX11 (312, 4, 11, 0) := ⟨zr_11, (RX0, TX0, 4), rfl, rfl, by decide, rfl, (zi_tb_of (List.mem_of_getElem? (i := 865) (by decide +kernel)) rfl), (zi_tb_of (List.mem_of_getElem? (i := 539) (by decide +kernel)) rfl), (zi_tb_of (List.mem_of_getElem? (i := 540) (by decide +kernel)) rfl)⟩
theorem zp_X11_96 : zi_pm zi_recs RX11 (315, 4, 5, 0) := ⟨zr_5, (RX0, TX0, 4), rfl, rfl, by decide, rfl, (zi_tb_of (List.mem_of_getElem? (i := 870) (by decide +kernel)) rfl), (zi_tb_of (List.mem_of_getElem? (i := 871) (by decide +kernel)) rfl), (zi_tb_of (List.mem_of_getElem? (i := 872) (by decide +kernel)) rfl)⟩
theorem zp_X11_97 : zi_pm zi_recs RX11 (321, 2, 84, 0) := ⟨zr_84, rfl, (zi_tb_of (List.mem_of_getElem? (i := 853) (by decide +kernel)) rfl), (zi_tb_of (List.mem_of_getElem? (i := 854) (by decide +kernel)) rfl)⟩
theorem zp_X11_98 : zi_pm zi_recs RX11 (324, 4, 85, 7) := ⟨zr_85, (RX8, TX8, 4), rfl, rfl, by decide, rfl, (zi_tb_of (List.mem_of_getElem? (i := 856) (by decide +kernel)) rfl), (zi_tb_of (List.mem_of_getElem? (i := 857) (by decide +kernel)) rfl), (zi_tb_of (List.mem_of_getElem? (i := 858) (by decide +kernel)) rfl)⟩
theorem zp_X11_99 : zi_pm zi_recs RX11 (327, 4, 133, 10) := ⟨zr_133, (RX11, TX11, 10), rfl, rfl, by decide, rfl, (zi_tb_of (List.mem_of_getElem? (i := 567) (by decide +kernel)) rfl), (zi_tb_of (List.mem_of_getElem? (i := 569) (by decide +kernel)) rfl), (zi_tb_of (List.mem_of_getElem? (i := 15) (by decide +kernel)) rfl)⟩
theorem zp_X11_100 : zi_pm zi_recs RX11 (338, 4, 21, 1) := ⟨zr_21, (RX1, TX1, 4), rfl, rfl, by decide, rfl, (zi_tb_of (List.mem_of_getElem? (i := 918) (by decide +kernel)) rfl), (zi_tb_of (List.mem_of_getElem? (i := 737) (by decide +kernel)) rfl), (zi_tb_of (List.mem_of_getElem? (i := 738) (by decide +kernel)) rfl)⟩
theorem zp_X11_101 : zi_pm zi_recs RX11 (342, 4, 86, 7) := ⟨zr_86, (RX8, TX8, 4), rfl, rfl, by decide, rfl, (zi_tb_of (List.mem_of_getElem? (i := 919) (by decide +kernel)) rfl), (zi_tb_of (List.mem_of_getElem? (i := 920) (by decide +kernel)) rfl), (zi_tb_of (List.mem_of_getElem? (i := 921) (by decide +kernel)) rfl)⟩
theorem zp_X11_102 : zi_pm zi_recs RX11 (367, 4, 67, 5) := ⟨zr_67, (RX5, TX5, 3), rfl, rfl, by decide, rfl, (zi_tb_of (List.mem_of_getElem? (i := 778) (by decide +kernel)) rfl), (zi_tb_of (List.mem_of_getElem? (i := 779) (by decide +kernel)) rfl), (zi_tb_of (List.mem_of_getElem? (i := 780) (by decide +kernel)) rfl)⟩
theorem zp_X11_103 : zi_pm zi_recs RX11 (370, 4, 14, 0) := ⟨zr_14, (RX0, TX0, 4), rfl, rfl, by decide, rfl, (zi_tb_of (List.mem_of_getElem? (i := 791) (by decide +kernel)) rfl), (zi_tb_of (List.mem_of_getElem? (i := 792) (by decide +kernel)) rfl), (zi_tb_of (List.mem_of_getElem? (i := 793) (by decide +kernel)) rfl)⟩
theorem zp_X11_104 : zi_pm zi_recs RX11 (373, 4, 78, 6) := ⟨zr_78, (RX7, TX7, 2), rfl, rfl, by decide, rfl, (zi_tb_of (List.mem_of_getElem? (i := 295) (by decide +kernel)) rfl), (zi_tb_of (List.mem_of_getElem? (i := 296) (by decide +kernel)) rfl), (zi_tb_of (List.mem_of_getElem? (i := 297) (by decide +kernel)) rfl)⟩
theorem zp_X11_105 : zi_pm zi_recs RX11 (377, 4, 127, 10) := ⟨zr_127, (RX11, TX11, 10), rfl, rfl, by decide, rfl, (zi_tb_of (List.mem_of_getElem? (i := 390) (by decide +kernel)) rfl), (zi_tb_of (List.mem_of_getElem? (i := 392) (by decide +kernel)) rfl), (zi_tb_of (List.mem_of_getElem? (i := 6) (by decide +kernel)) rfl)⟩
theorem zp_X11_106 : zi_pm zi_recs RX11 (380, 4, 34, 4) := ⟨zr_34, (RX4, TX4, 11), rfl, rfl, by decide, rfl, (zi_tb_of (List.mem_of_getElem? (i := 769) (by decide +kernel)) rfl), (zi_tb_of (List.mem_of_getElem? (i := 304) (by decide +kernel)) rfl), (zi_tb_of (List.mem_of_getElem? (i := 305) (by decide +kernel)) rfl)⟩
theorem zp_X11_107 : zi_pm zi_recs RX11 (384, 4, 47, 4) := ⟨zr_47, (RX4, TX4, 11), rfl, rfl, by decide, rfl, (zi_tb_of (List.mem_of_getElem? (i := 395) (by decide +kernel)) rfl), (zi_tb_of (List.mem_of_getElem? (i := 396) (by decide +kernel)) rfl), (zi_tb_of (List.mem_of_getElem? (i := 397) (by decide +kernel)) rfl)⟩
theorem zp_X11_108 : zi_pm zi_recs RX11 (387, 2, 134, 0) := ⟨zr_134, rfl, (zi_tb_of (List.mem_of_getElem? (i := 343) (by decide +kernel)) rfl), (zi_tb_of (List.mem_of_getElem? (i := 337) (by decide +kernel)) rfl)⟩
theorem zp_X11_109 : zi_pm zi_recs RX11 (390, 2, 135, 0) := ⟨zr_135, rfl, (zi_tb_of (List.mem_of_getElem? (i := 342) (by decide +kernel)) rfl), (zi_tb_of (List.mem_of_getElem? (i := 323) (by decide +kernel)) rfl)⟩
theorem zp_X11_110 : zi_pm zi_recs RX11 (7, 8, 9, 6) := ⟨(RX10, TX10, 6), rfl, rfl, (zi_tb_of (List.mem_of_getElem? (i := 48) (by decide +kernel)) rfl), (zi_tb_of (List.mem_of_getElem? (i := 49) (by decide +kernel)) rfl), (zi_tb_of (List.mem_of_getElem? (i := 27) (by decide +kernel)) rfl)⟩
theorem zp_X11_111 : zi_pm zi_recs RX11 (16, 8, 7, 4) := ⟨(RX8, TX8, 4), rfl, rfl, (zi_tb_of (List.mem_of_getElem? (i := 76) (by decide +kernel)) rfl), (zi_tb_of (List.mem_of_getElem? (i := 77) (by decide +kernel)) rfl), (zi_tb_of (List.mem_of_getElem? (i := 28) (by decide +kernel)) rfl)⟩
theorem zp_X11_112 : zi_pm zi_recs RX11 (23, 8, 2, 3) := ⟨(RX2, TX2, 3), rfl, rfl, (zi_tb_of (List.mem_of_getElem? (i := 102) (by decide +kernel)) rfl), (zi_tb_of (List.mem_of_getElem? (i := 103) (by decide +kernel)) rfl), (zi_tb_of (List.mem_of_getElem? (i := 29) (by decide +kernel)) rfl)⟩
theorem zp_X11_113 : zi_pm zi_recs RX11 (30, 8, 6, 2) := ⟨(RX7, TX7, 2), rfl, rfl, (zi_tb_of (List.mem_of_getElem? (i := 188) (by decide +kernel)) rfl), (zi_tb_of (List.mem_of_getElem? (i := 189) (by decide +kernel)) rfl), (zi_tb_of (List.mem_of_getElem? (i := 33) (by decide +kernel)) rfl)⟩
theorem zp_X11_114 : zi_pm zi_recs RX11 (37, 8, 3, 3) := ⟨(RX3, TX3, 3), rfl, rfl, (zi_tb_of (List.mem_of_getElem? (i := 245) (by decide +kernel)) rfl), (zi_tb_of (List.mem_of_getElem? (i := 251) (by decide +kernel)) rfl), (zi_tb_of (List.mem_of_getElem? (i := 35) (by decide +kernel)) rfl)⟩
theorem zp_X11_115 : zi_pm zi_recs RX11 (37, 9, 15, 0) := ⟨"FoldedRows$Image", rfl, (zi_tb_of (List.mem_of_getElem? (i := 245) (by decide +kernel)) rfl), (List.mem_of_getElem? (i := 246) (by decide +kernel))⟩
theorem zp_X11_116 : zi_pm zi_recs RX11 (43, 8, 8, 4) := ⟨(RX9, TX9, 4), rfl, rfl, (zi_tb_of (List.mem_of_getElem? (i := 247) (by decide +kernel)) rfl), (zi_tb_of (List.mem_of_getElem? (i := 273) (by decide +kernel)) rfl), (zi_tb_of (List.mem_of_getElem? (i := 36) (by decide +kernel)) rfl)⟩
theorem zp_X11_117 : zi_pm zi_recs RX11 (43, 9, 17, 0) := ⟨"FoldedRows$Sheet", rfl, (zi_tb_of (List.mem_of_getElem? (i := 247) (by decide +kernel)) rfl), (List.mem_of_getElem? (i := 248) (by decide +kernel))⟩
theorem zp_X11_118 : zi_pm zi_recs RX11 (49, 8, 1, 4) := ⟨(RX1, TX1, 4), rfl, rfl, (zi_tb_of (List.mem_of_getElem? (i := 249) (by decide +kernel)) rfl), (zi_tb_of (List.mem_of_getElem? (i := 110) (by decide +kernel)) rfl), (zi_tb_of (List.mem_of_getElem? (i := 30) (by decide +kernel)) rfl)⟩
theorem zp_X11_119 : zi_pm zi_recs RX11 (270, 10, 0, 2147483647) := ⟨(zi_tb_of (List.mem_of_getElem? (i := 879) (by decide +kernel)) rfl), by show (-2147483648 : Int) ≤ 2147483647 ∧ (2147483647 : Int) < 2147483648; omega⟩
theorem zp_X11_120 : zi_pm zi_recs RX11 (257, 11, 0, 2147483647) := ⟨(zi_tb_of (List.mem_of_getElem? (i := 842) (by decide +kernel)) rfl), by show (-9223372036854775808 : Int) ≤ 2147483647 ∧ (2147483647 : Int) < 9223372036854775808; omega⟩
def zpl_X11 : List (Nat × Nat × Nat × Int) := [(10, 0, 10, 0), (19, 0, 10, 1), (26, 0, 10, 2), (33, 0, 10, 3), (39, 0, 10, 4), (45, 0, 10, 5), (52, 0, 10, 6), (56, 0, 10, 7), (59, 0, 10, 8), (63, 0, 10, 9), (75, 1, 9, 2), (82, 1, 9, 3), (92, 1, 1, 0), (96, 1, 5, 0), (111, 1, 1, 1), (115, 1, 0, 0), (121, 1, 7, 0), (124, 1, 7, 1), (127, 1, 7, 2), (130, 1, 7, 3), (133, 1, 2, 1), (136, 1, 2, 2), (157, 1, 4, 1), (169, 1, 4, 2), (229, 1, 1, 2), (232, 1, 1, 3), (331, 1, 3, 2), (335, 1, 3, 0), (341, 1, 3, 1), (1, 12, 1000, 10), (9, 7, 91, 9), (18, 7, 83, 7), (25, 6, 25, 2), (32, 6, 76, 6), (51, 7, 19, 1), (66, 7, 32, 3), (67, 7, 90, 8), (68, 4, 125, 10), (71, 4, 92, 9), (78, 4, 93, 9), (85, 4, 26, 2), (88, 4, 132, 10), (101, 4, 59, 5), (105, 4, 79, 6), (108, 4, 22, 1), (118, 4, 6, 0), (139, 4, 131, 10), (142, 4, 56, 5), (145, 4, 58, 5), (149, 4, 60, 5), (153, 4, 77, 6), (162, 4, 8, 0), (165, 4, 80, 6), (172, 4, 35, 4), (175, 4, 36, 4), (178, 4, 37, 4), (181, 4, 82, 6), (184, 4, 42, 4), (187, 4, 43, 4), (190, 4, 44, 4), (193, 4, 45, 4), (196, 4, 57, 5), (200, 4, 81, 6), (204, 4, 41, 4), (207, 4, 38, 4), (210, 4, 39, 4), (213, 4, 46, 4), (216, 4, 1, 0), (217, 4, 2, 0), (220, 4, 3, 0), (223, 4, 4, 0), (226, 4, 7, 0), (235, 4, 129, 10), (238, 4, 130, 10), (241, 4, 128, 10), (245, 4, 49, 4), (248, 4, 48, 4), (251, 4, 23, 1), (254, 4, 24, 1), (259, 13, 1004, 0), (265, 13, 1003, 0), (268, 4, 40, 4), (271, 2, 136, 0), (274, 4, 27, 2), (278, 4, 64, 5), (282, 4, 126, 10), (285, 4, 124, 10), (288, 13, 1001, 0), (290, 4, 65, 5), (293, 4, 9, 0), (296, 4, 66, 5), (299, 4, 13, 0), (302, 4, 28, 2), (306, 4, 29, 2), (309, 4, 10, 0), (312, 4, 11, 0), (315, 4, 5, 0), (321, 2, 84, 0), (324, 4, 85, 7), (327, 4, 133, 10), (338, 4, 21, 1), (342, 4, 86, 7), (367, 4, 67, 5), (370, 4, 14, 0), (373, 4, 78, 6), (377, 4, 127, 10), (380, 4, 34, 4), (384, 4, 47, 4), (387, 2, 134, 0), (390, 2, 135, 0), (7, 8, 9, 6), (16, 8, 7, 4), (23, 8, 2, 3), (30, 8, 6, 2), (37, 8, 3, 3), (37, 9, 15, 0), (43, 8, 8, 4), (43, 9, 17, 0), (49, 8, 1, 4), (270, 10, 0, 2147483647), (257, 11, 0, 2147483647)]
theorem zpl_X11_ok : ∀ e ∈ zpl_X11, zi_pm zi_recs RX11 e := zp_chain zp_X11_0 (zp_chain zp_X11_1 (zp_chain zp_X11_2 (zp_chain zp_X11_3 (zp_chain zp_X11_4 (zp_chain zp_X11_5 (zp_chain zp_X11_6 (zp_chain zp_X11_7 (zp_chain zp_X11_8 (zp_chain zp_X11_9 (zp_chain zp_X11_10 (zp_chain zp_X11_11 (zp_chain zp_X11_12 (zp_chain zp_X11_13 (zp_chain zp_X11_14 (zp_chain zp_X11_15 (zp_chain zp_X11_16 (zp_chain zp_X11_17 (zp_chain zp_X11_18 (zp_chain zp_X11_19 (zp_chain zp_X11_20 (zp_chain zp_X11_21 (zp_chain zp_X11_22 (zp_chain zp_X11_23 (zp_chain zp_X11_24 (zp_chain zp_X11_25 (zp_chain zp_X11_26 (zp_chain zp_X11_27 (zp_chain zp_X11_28 (zp_chain zp_X11_29 (zp_chain zp_X11_30 (zp_chain zp_X11_31 (zp_chain zp_X11_32 (zp_chain zp_X11_33 (zp_chain zp_X11_34 (zp_chain zp_X11_35 (zp_chain zp_X11_36 (zp_chain zp_X11_37 (zp_chain zp_X11_38 (zp_chain zp_X11_39 (zp_chain zp_X11_40 (zp_chain zp_X11_41 (zp_chain zp_X11_42 (zp_chain zp_X11_43 (zp_chain zp_X11_44 (zp_chain zp_X11_45 (zp_chain zp_X11_46 (zp_chain zp_X11_47 (zp_chain zp_X11_48 (zp_chain zp_X11_49 (zp_chain zp_X11_50 (zp_chain zp_X11_51 (zp_chain zp_X11_52 (zp_chain zp_X11_53 (zp_chain zp_X11_54 (zp_chain zp_X11_55 (zp_chain zp_X11_56 (zp_chain zp_X11_57 (zp_chain zp_X11_58 (zp_chain zp_X11_59 (zp_chain zp_X11_60 (zp_chain zp_X11_61 (zp_chain zp_X11_62 (zp_chain zp_X11_63 (zp_chain zp_X11_64 (zp_chain zp_X11_65 (zp_chain zp_X11_66 (zp_chain zp_X11_67 (zp_chain zp_X11_68 (zp_chain zp_X11_69 (zp_chain zp_X11_70 (zp_chain zp_X11_71 (zp_chain zp_X11_72 (zp_chain zp_X11_73 (zp_chain zp_X11_74 (zp_chain zp_X11_75 (zp_chain zp_X11_76 (zp_chain zp_X11_77 (zp_chain zp_X11_78 (zp_chain zp_X11_79 (zp_chain zp_X11_80 (zp_chain zp_X11_81 (zp_chain zp_X11_82 (zp_chain zp_X11_83 (zp_chain zp_X11_84 (zp_chain zp_X11_85 (zp_chain zp_X11_86 (zp_chain zp_X11_87 (zp_chain zp_X11_88 (zp_chain zp_X11_89 (zp_chain zp_X11_90 (zp_chain zp_X11_91 (zp_chain zp_X11_92 (zp_chain zp_X11_93 (zp_chain zp_X11_94 (zp_chain zp_X11_95 (zp_chain zp_X11_96 (zp_chain zp_X11_97 (zp_chain zp_X11_98 (zp_chain zp_X11_99 (zp_chain zp_X11_100 (zp_chain zp_X11_101 (zp_chain zp_X11_102 (zp_chain zp_X11_103 (zp_chain zp_X11_104 (zp_chain zp_X11_105 (zp_chain zp_X11_106 (zp_chain zp_X11_107 (zp_chain zp_X11_108 (zp_chain zp_X11_109 (zp_chain zp_X11_110 (zp_chain zp_X11_111 (zp_chain zp_X11_112 (zp_chain zp_X11_113 (zp_chain zp_X11_114 (zp_chain zp_X11_115 (zp_chain zp_X11_116 (zp_chain zp_X11_117 (zp_chain zp_X11_118 (zp_chain zp_X11_119 (zp_chain zp_X11_120 ( fun e h => absurd h List.not_mem_nil)))))))))))))))))))))))))))))))))))))))))))))))))))))))))))))))))))))))))))))))))))))))))))))))))))))))))))))))))))))))))
theorem zp_L_0 : zi_pm zi_recs RL (9, 2, 138, 0) := ⟨zr_138, rfl, (zi_tb_of (List.mem_of_getElem? (i := 443) (by decide +kernel)) rfl), (zi_tb_of (List.mem_of_getElem? (i := 444) (by decide +kernel)) rfl)⟩
theorem zp_L_1 : zi_pm zi_recs RL (19, 2, 142, 0) := ⟨zr_142, rfl, (zi_tb_of (List.mem_of_getElem? (i := 474) (by decide +kernel)) rfl), (zi_tb_of (List.mem_of_getElem? (i := 475) (by decide +kernel)) rfl)⟩
theorem zp_L_2 : zi_pm zi_recs RL (23, 2, 139, 0) := ⟨zr_139, rfl, (zi_tb_of (List.mem_of_getElem? (i := 447) (by decide +kernel)) rfl), (zi_tb_of (List.mem_of_getElem? (i := 448) (by decide +kernel)) rfl)⟩
theorem zp_L_3 : zi_pm zi_recs RL (27, 4, 99, 10) := ⟨zr_99, (RX11, TX11, 10), rfl, rfl, by decide, rfl, (zi_tb_of (List.mem_of_getElem? (i := 454) (by decide +kernel)) rfl), (zi_tb_of (List.mem_of_getElem? (i := 455) (by decide +kernel)) rfl), (zi_tb_of (List.mem_of_getElem? (i := 456) (by decide +kernel)) rfl)⟩
theorem zp_L_4 : zi_pm zi_recs RL (33, 2, 140, 0) := ⟨zr_140, rfl, (zi_tb_of (List.mem_of_getElem? (i := 463) (by decide +kernel)) rfl), (zi_tb_of (List.mem_of_getElem? (i := 464) (by decide +kernel)) rfl)⟩
theorem zp_L_5 : zi_pm zi_recs RL (36, 2, 141, 0) := ⟨zr_141, rfl, (zi_tb_of (List.mem_of_getElem? (i := 466) (by decide +kernel)) rfl), (zi_tb_of (List.mem_of_getElem? (i := 467) (by decide +kernel)) rfl)⟩
theorem zp_L_6 : zi_pm zi_recs RL (40, 2, 143, 0) := ⟨zr_143, rfl, (zi_tb_of (List.mem_of_getElem? (i := 471) (by decide +kernel)) rfl), (zi_tb_of (List.mem_of_getElem? (i := 472) (by decide +kernel)) rfl)⟩
theorem zp_L_7 : zi_pm zi_recs RL (44, 2, 144, 0) := ⟨zr_144, rfl, (zi_tb_of (List.mem_of_getElem? (i := 477) (by decide +kernel)) rfl), (zi_tb_of (List.mem_of_getElem? (i := 478) (by decide +kernel)) rfl)⟩
theorem zp_L_8 : zi_pm zi_recs RL (48, 4, 100, 10) := ⟨zr_100, (RX11, TX11, 10), rfl, rfl, by decide, rfl, (zi_tb_of (List.mem_of_getElem? (i := 480) (by decide +kernel)) rfl), (zi_tb_of (List.mem_of_getElem? (i := 481) (by decide +kernel)) rfl), (zi_tb_of (List.mem_of_getElem? (i := 482) (by decide +kernel)) rfl)⟩
theorem zp_L_9 : zi_pm zi_recs RL (52, 4, 101, 10) := ⟨zr_101, (RX11, TX11, 10), rfl, rfl, by decide, rfl, (zi_tb_of (List.mem_of_getElem? (i := 571) (by decide +kernel)) rfl), (zi_tb_of (List.mem_of_getElem? (i := 572) (by decide +kernel)) rfl), (zi_tb_of (List.mem_of_getElem? (i := 573) (by decide +kernel)) rfl)⟩
theorem zp_L_10 : zi_pm zi_recs RL (55, 4, 102, 10) := ⟨zr_102, (RX11, TX11, 10), rfl, rfl, by decide, rfl, (zi_tb_of (List.mem_of_getElem? (i := 575) (by decide +kernel)) rfl), (zi_tb_of (List.mem_of_getElem? (i := 576) (by decide +kernel)) rfl), (zi_tb_of (List.mem_of_getElem? (i := 577) (by decide +kernel)) rfl)⟩
theorem zp_L_11 : zi_pm zi_recs RL (62, 4, 104, 10) := ⟨zr_104, (RX11, TX11, 10), rfl, rfl, by decide, rfl, (zi_tb_of (List.mem_of_getElem? (i := 632) (by decide +kernel)) rfl), (zi_tb_of (List.mem_of_getElem? (i := 633) (by decide +kernel)) rfl), (zi_tb_of (List.mem_of_getElem? (i := 634) (by decide +kernel)) rfl)⟩
theorem zp_L_12 : zi_pm zi_recs RL (65, 4, 103, 10) := ⟨zr_103, (RX11, TX11, 10), rfl, rfl, by decide, rfl, (zi_tb_of (List.mem_of_getElem? (i := 886) (by decide +kernel)) rfl), (zi_tb_of (List.mem_of_getElem? (i := 887) (by decide +kernel)) rfl), (zi_tb_of (List.mem_of_getElem? (i := 888) (by decide +kernel)) rfl)⟩
theorem zp_L_13 : zi_pm zi_recs RL (72, 4, 109, 10) := ⟨zr_109, (RX11, TX11, 10), rfl, rfl, by decide, rfl, (zi_tb_of (List.mem_of_getElem? (i := 705) (by decide +kernel)) rfl), (zi_tb_of (List.mem_of_getElem? (i := 706) (by decide +kernel)) rfl), (zi_tb_of (List.mem_of_getElem? (i := 707) (by decide +kernel)) rfl)⟩
theorem zp_L_14 : zi_pm zi_recs RL (75, 4, 110, 10) := ⟨zr_110, (RX11, TX11, 10), rfl, rfl, by decide, rfl, (zi_tb_of (List.mem_of_getElem? (i := 694) (by decide +kernel)) rfl), (zi_tb_of (List.mem_of_getElem? (i := 695) (by decide +kernel)) rfl), (zi_tb_of (List.mem_of_getElem? (i := 696) (by decide +kernel)) rfl)⟩
theorem zp_L_15 : zi_pm zi_recs RL (78, 4, 107, 10) := ⟨zr_107, (RX11, TX11, 10), rfl, rfl, by decide, rfl, (zi_tb_of (List.mem_of_getElem? (i := 655) (by decide +kernel)) rfl), (zi_tb_of (List.mem_of_getElem? (i := 656) (by decide +kernel)) rfl), (zi_tb_of (List.mem_of_getElem? (i := 657) (by decide +kernel)) rfl)⟩
theorem zp_L_16 : zi_pm zi_recs RL (82, 4, 105, 10) := ⟨zr_105, (RX11, TX11, 10), rfl, rfl, by decide, rfl, (zi_tb_of (List.mem_of_getElem? (i := 620) (by decide +kernel)) rfl), (zi_tb_of (List.mem_of_getElem? (i := 621) (by decide +kernel)) rfl), (zi_tb_of (List.mem_of_getElem? (i := 622) (by decide +kernel)) rfl)⟩
theorem zp_L_17 : zi_pm zi_recs RL (85, 4, 106, 10) := ⟨zr_106, (RX11, TX11, 10), rfl, rfl, by decide, rfl, (zi_tb_of (List.mem_of_getElem? (i := 677) (by decide +kernel)) rfl), (zi_tb_of (List.mem_of_getElem? (i := 678) (by decide +kernel)) rfl), (zi_tb_of (List.mem_of_getElem? (i := 679) (by decide +kernel)) rfl)⟩
theorem zp_L_18 : zi_pm zi_recs RL (87, 4, 108, 10) := ⟨zr_108, (RX11, TX11, 10), rfl, rfl, by decide, rfl, (zi_tb_of (List.mem_of_getElem? (i := 685) (by decide +kernel)) rfl), (zi_tb_of (List.mem_of_getElem? (i := 686) (by decide +kernel)) rfl), (zi_tb_of (List.mem_of_getElem? (i := 687) (by decide +kernel)) rfl)⟩
theorem zp_L_19 : zi_pm zi_recs RL (90, 4, 114, 10) := ⟨zr_114, (RX11, TX11, 10), rfl, rfl, by decide, rfl, (zi_tb_of (List.mem_of_getElem? (i := 723) (by decide +kernel)) rfl), (zi_tb_of (List.mem_of_getElem? (i := 724) (by decide +kernel)) rfl), (zi_tb_of (List.mem_of_getElem? (i := 725) (by decide +kernel)) rfl)⟩
theorem zp_L_20 : zi_pm zi_recs RL (93, 4, 115, 10) := ⟨zr_115, (RX11, TX11, 10), rfl, rfl, by decide, rfl, (zi_tb_of (List.mem_of_getElem? (i := 770) (by decide +kernel)) rfl), (zi_tb_of (List.mem_of_getElem? (i := 771) (by decide +kernel)) rfl), (zi_tb_of (List.mem_of_getElem? (i := 772) (by decide +kernel)) rfl)⟩
theorem zp_L_21 : zi_pm zi_recs RL (96, 4, 116, 10) := ⟨zr_116, (RX11, TX11, 10), rfl, rfl, by decide, rfl, (zi_tb_of (List.mem_of_getElem? (i := 805) (by decide +kernel)) rfl), (zi_tb_of (List.mem_of_getElem? (i := 806) (by decide +kernel)) rfl), (zi_tb_of (List.mem_of_getElem? (i := 807) (by decide +kernel)) rfl)⟩
theorem zp_L_22 : zi_pm zi_recs RL (99, 4, 111, 10) := ⟨zr_111, (RX11, TX11, 10), rfl, rfl, by decide, rfl, (zi_tb_of (List.mem_of_getElem? (i := 821) (by decide +kernel)) rfl), (zi_tb_of (List.mem_of_getElem? (i := 822) (by decide +kernel)) rfl), (zi_tb_of (List.mem_of_getElem? (i := 823) (by decide +kernel)) rfl)⟩
theorem zp_L_23 : zi_pm zi_recs RL (102, 4, 112, 10) := ⟨zr_112, (RX11, TX11, 10), rfl, rfl, by decide, rfl, (zi_tb_of (List.mem_of_getElem? (i := 838) (by decide +kernel)) rfl), (zi_tb_of (List.mem_of_getElem? (i := 839) (by decide +kernel)) rfl), (zi_tb_of (List.mem_of_getElem? (i := 840) (by decide +kernel)) rfl)⟩
theorem zp_L_24 : zi_pm zi_recs RL (105, 4, 121, 10) := ⟨zr_121, (RX11, TX11, 10), rfl, rfl, by decide, rfl, (zi_tb_of (List.mem_of_getElem? (i := 849) (by decide +kernel)) rfl), (zi_tb_of (List.mem_of_getElem? (i := 850) (by decide +kernel)) rfl), (zi_tb_of (List.mem_of_getElem? (i := 851) (by decide +kernel)) rfl)⟩
theorem zp_L_25 : zi_pm zi_recs RL (108, 4, 119, 10) := ⟨zr_119, (RX11, TX11, 10), rfl, rfl, by decide, rfl, (zi_tb_of (List.mem_of_getElem? (i := 860) (by decide +kernel)) rfl), (zi_tb_of (List.mem_of_getElem? (i := 861) (by decide +kernel)) rfl), (zi_tb_of (List.mem_of_getElem? (i := 862) (by decide +kernel)) rfl)⟩
theorem zp_L_26 : zi_pm zi_recs RL (111, 4, 120, 10) := ⟨zr_120, (RX11, TX11, 10), rfl, rfl, by decide, rfl, (zi_tb_of (List.mem_of_getElem? (i := 866) (by decide +kernel)) rfl), (zi_tb_of (List.mem_of_getElem? (i := 867) (by decide +kernel)) rfl), (zi_tb_of (List.mem_of_getElem? (i := 868) (by decide +kernel)) rfl)⟩
theorem zp_L_27 : zi_pm zi_recs RL (114, 4, 113, 10) := ⟨zr_113, (RX11, TX11, 10), rfl, rfl, by decide, rfl, (zi_tb_of (List.mem_of_getElem? (i := 874) (by decide +kernel)) rfl), (zi_tb_of (List.mem_of_getElem? (i := 875) (by decide +kernel)) rfl), (zi_tb_of (List.mem_of_getElem? (i := 876) (by decide +kernel)) rfl)⟩
theorem zp_L_28 : zi_pm zi_recs RL (117, 2, 146, 0) := ⟨zr_146, rfl, (zi_tb_of (List.mem_of_getElem? (i := 883) (by decide +kernel)) rfl), (zi_tb_of (List.mem_of_getElem? (i := 884) (by decide +kernel)) rfl)⟩
theorem zp_L_29 : zi_pm zi_recs RL (121, 2, 149, 0) := ⟨zr_149, rfl, (zi_tb_of (List.mem_of_getElem? (i := 720) (by decide +kernel)) rfl), (zi_tb_of (List.mem_of_getElem? (i := 721) (by decide +kernel)) rfl)⟩
theorem zp_L_30 : zi_pm zi_recs RL (125, 4, 117, 10) := ⟨zr_117, (RX11, TX11, 10), rfl, rfl, by decide, rfl, (zi_tb_of (List.mem_of_getElem? (i := 891) (by decide +kernel)) rfl), (zi_tb_of (List.mem_of_getElem? (i := 892) (by decide +kernel)) rfl), (zi_tb_of (List.mem_of_getElem? (i := 893) (by decide +kernel)) rfl)⟩
theorem zp_L_31 : zi_pm zi_recs RL (128, 4, 118, 10) := ⟨zr_118, (RX11, TX11, 10), rfl, rfl, by decide, rfl, (zi_tb_of (List.mem_of_getElem? (i := 903) (by decide +kernel)) rfl), (zi_tb_of (List.mem_of_getElem? (i := 904) (by decide +kernel)) rfl), (zi_tb_of (List.mem_of_getElem? (i := 905) (by decide +kernel)) rfl)⟩
theorem zp_L_32 : zi_pm zi_recs RL (131, 4, 122, 10) := ⟨zr_122, (RX11, TX11, 10), rfl, rfl, by decide, rfl, (zi_tb_of (List.mem_of_getElem? (i := 914) (by decide +kernel)) rfl), (zi_tb_of (List.mem_of_getElem? (i := 915) (by decide +kernel)) rfl), (zi_tb_of (List.mem_of_getElem? (i := 916) (by decide +kernel)) rfl)⟩
theorem zp_L_33 : zi_pm zi_recs RL (134, 2, 147, 0) := ⟨zr_147, rfl, (zi_tb_of (List.mem_of_getElem? (i := 617) (by decide +kernel)) rfl), (zi_tb_of (List.mem_of_getElem? (i := 618) (by decide +kernel)) rfl)⟩
theorem zp_L_34 : zi_pm zi_recs RL (138, 4, 123, 10) := ⟨zr_123, (RX11, TX11, 10), rfl, rfl, by decide, rfl, (zi_tb_of (List.mem_of_getElem? (i := 923) (by decide +kernel)) rfl), (zi_tb_of (List.mem_of_getElem? (i := 924) (by decide +kernel)) rfl), (zi_tb_of (List.mem_of_getElem? (i := 925) (by decide +kernel)) rfl)⟩
theorem zp_L_35 : zi_pm zi_recs RL (141, 6, 98, 10) := ⟨zr_98, rfl, by decide, by decide, rfl, rfl, (zi_tb_of (List.mem_of_getElem? (i := 42) (by decide +kernel)) rfl), (zi_tb_of (List.mem_of_getElem? (i := 43) (by decide +kernel)) rfl)⟩
theorem zp_L_36 : zi_pm zi_recs RL (142, 2, 145, 0) := ⟨zr_145, rfl, (zi_tb_of (List.mem_of_getElem? (i := 451) (by decide +kernel)) rfl), (zi_tb_of (List.mem_of_getElem? (i := 452) (by decide +kernel)) rfl)⟩
theorem zp_L_37 : zi_pm zi_recs RL (146, 2, 148, 0) := ⟨zr_148, rfl, (zi_tb_of (List.mem_of_getElem? (i := 702) (by decide +kernel)) rfl), (zi_tb_of (List.mem_of_getElem? (i := 703) (by decide +kernel)) rfl)⟩
theorem zp_L_38 : zi_pm zi_recs RL (149, 2, 150, 0) := ⟨zr_150, rfl, (zi_tb_of (List.mem_of_getElem? (i := 880) (by decide +kernel)) rfl), (zi_tb_of (List.mem_of_getElem? (i := 881) (by decide +kernel)) rfl)⟩
theorem zp_L_39 : zi_pm zi_recs RL (152, 2, 151, 0) := ⟨zr_151, rfl, (zi_tb_of (List.mem_of_getElem? (i := 911) (by decide +kernel)) rfl), (zi_tb_of (List.mem_of_getElem? (i := 912) (by decide +kernel)) rfl)⟩
theorem zp_L_40 : zi_pm zi_recs RL (28, 8, 10, 10) := ⟨(RX11, TX11, 10), rfl, rfl, (zi_tb_of (List.mem_of_getElem? (i := 40) (by decide +kernel)) rfl), (zi_tb_of (List.mem_of_getElem? (i := 41) (by decide +kernel)) rfl), (zi_tb_of (List.mem_of_getElem? (i := 26) (by decide +kernel)) rfl)⟩
theorem zp_L_41 : zi_pm zi_recs RL (7, 10, 0, 2147483647) := ⟨(zi_tb_of (List.mem_of_getElem? (i := 446) (by decide +kernel)) rfl), by show (-2147483648 : Int) ≤ 2147483647 ∧ (2147483647 : Int) < 2147483648; omega⟩
theorem zp_L_42 : zi_pm zi_recs RL (8, 10, 0, 2654435) := ⟨(zi_tb_of (List.mem_of_getElem? (i := 450) (by decide +kernel)) rfl), by show (-2147483648 : Int) ≤ 2654435 ∧ (2654435 : Int) < 2147483648; omega⟩
theorem zp_L_43 : zi_pm zi_recs RL (15, 11, 0, 255) := ⟨(zi_tb_of (List.mem_of_getElem? (i := 469) (by decide +kernel)) rfl), by show (-9223372036854775808 : Int) ≤ 255 ∧ (255 : Int) < 9223372036854775808; omega⟩
theorem zp_L_44 : zi_pm zi_recs RL (17, 11, 0, (-1)) := ⟨(zi_tb_of (List.mem_of_getElem? (i := 470) (by decide +kernel)) rfl), by show (-9223372036854775808 : Int) ≤ (-1) ∧ ((-1) : Int) < 9223372036854775808; omega⟩
def zpl_L : List (Nat × Nat × Nat × Int) := [(9, 2, 138, 0), (19, 2, 142, 0), (23, 2, 139, 0), (27, 4, 99, 10), (33, 2, 140, 0), (36, 2, 141, 0), (40, 2, 143, 0), (44, 2, 144, 0), (48, 4, 100, 10), (52, 4, 101, 10), (55, 4, 102, 10), (62, 4, 104, 10), (65, 4, 103, 10), (72, 4, 109, 10), (75, 4, 110, 10), (78, 4, 107, 10), (82, 4, 105, 10), (85, 4, 106, 10), (87, 4, 108, 10), (90, 4, 114, 10), (93, 4, 115, 10), (96, 4, 116, 10), (99, 4, 111, 10), (102, 4, 112, 10), (105, 4, 121, 10), (108, 4, 119, 10), (111, 4, 120, 10), (114, 4, 113, 10), (117, 2, 146, 0), (121, 2, 149, 0), (125, 4, 117, 10), (128, 4, 118, 10), (131, 4, 122, 10), (134, 2, 147, 0), (138, 4, 123, 10), (141, 6, 98, 10), (142, 2, 145, 0), (146, 2, 148, 0), (149, 2, 150, 0), (152, 2, 151, 0), (28, 8, 10, 10), (7, 10, 0, 2147483647), (8, 10, 0, 2654435), (15, 11, 0, 255), (17, 11, 0, (-1))]
theorem zpl_L_ok : ∀ e ∈ zpl_L, zi_pm zi_recs RL e := zp_chain zp_L_0 (zp_chain zp_L_1 (zp_chain zp_L_2 (zp_chain zp_L_3 (zp_chain zp_L_4 (zp_chain zp_L_5 (zp_chain zp_L_6 (zp_chain zp_L_7 (zp_chain zp_L_8 (zp_chain zp_L_9 (zp_chain zp_L_10 (zp_chain zp_L_11 (zp_chain zp_L_12 (zp_chain zp_L_13 (zp_chain zp_L_14 (zp_chain zp_L_15 (zp_chain zp_L_16 (zp_chain zp_L_17 (zp_chain zp_L_18 (zp_chain zp_L_19 (zp_chain zp_L_20 (zp_chain zp_L_21 (zp_chain zp_L_22 (zp_chain zp_L_23 (zp_chain zp_L_24 (zp_chain zp_L_25 (zp_chain zp_L_26 (zp_chain zp_L_27 (zp_chain zp_L_28 (zp_chain zp_L_29 (zp_chain zp_L_30 (zp_chain zp_L_31 (zp_chain zp_L_32 (zp_chain zp_L_33 (zp_chain zp_L_34 (zp_chain zp_L_35 (zp_chain zp_L_36 (zp_chain zp_L_37 (zp_chain zp_L_38 (zp_chain zp_L_39 (zp_chain zp_L_40 (zp_chain zp_L_41 (zp_chain zp_L_42 (zp_chain zp_L_43 (zp_chain zp_L_44 ( fun e h => absurd h List.not_mem_nil)))))))))))))))))))))))))))))))))))))))))))))
end
section
/-! each method's record is as the words have it -/
def zi_chk (r : zi_rec) (pl : List (Nat × Nat × Nat × Int)) : Bool := r.2.2.2.2.1.all fun cl => decide (decode r.2.1 cl.1 = .ok (cl.2.1, zi_len cl.2.1 cl.2.2.2.1)) && zi_ck zi_nps r.1.cls pl (decide (r.1.name = "<init>")) cl
theorem zi_chk_ok {r : zi_rec} {pl : List (Nat × Nat × Nat × Int)} (h : zi_chk r pl = true) : ∀ cl ∈ r.2.2.2.2.1, decode r.2.1 cl.1 = .ok (cl.2.1, zi_len cl.2.1 cl.2.2.2.1) ∧ zi_ck zi_nps r.1.cls pl (decide (r.1.name = "<init>")) cl = true := by
  intro cl hcl
  have h1 := List.all_eq_true.mp h cl hcl
  rw [Bool.and_eq_true] at h1
  exact ⟨of_decide_eq_true h1.1, h1.2⟩
theorem zg_0 : zi_rg zi_recs zi_nps zr_0 := ⟨⟨(zi_tb_of (List.mem_of_getElem? (i := 139) (by decide +kernel)) rfl), (zi_tb_of (List.mem_of_getElem? (i := 32) (by decide +kernel)) rfl), by decide, by decide, by decide +kernel, by decide⟩, by decide +kernel, by decide, Or.inl ⟨rfl, rfl⟩, zpl_X0, zpl_X0_ok, zi_chk_ok (by decide +kernel)⟩
theorem zg_1 : zi_rg zi_recs zi_nps zr_1 := ⟨⟨(zi_tb_of (List.mem_of_getElem? (i := 712) (by decide +kernel)) rfl), (zi_tb_of (List.mem_of_getElem? (i := 32) (by decide +kernel)) rfl), by decide, by decide, by decide +kernel, by decide⟩, by decide +kernel, by decide, Or.inr (Or.inr (Or.inl ⟨rfl, rfl⟩)), zpl_X0, zpl_X0_ok, zi_chk_ok (by decide +kernel)⟩
theorem zg_2 : zi_rg zi_recs zi_nps zr_2 := ⟨⟨(zi_tb_of (List.mem_of_getElem? (i := 529) (by decide +kernel)) rfl), (zi_tb_of (List.mem_of_getElem? (i := 32) (by decide +kernel)) rfl), by decide, by decide, by decide +kernel, by decide⟩, by decide +kernel, by decide, Or.inr (Or.inl ⟨rfl, rfl⟩), zpl_X0, zpl_X0_ok, zi_chk_ok (by decide +kernel)⟩
theorem zg_3 : zi_rg zi_recs zi_nps zr_3 := ⟨⟨(zi_tb_of (List.mem_of_getElem? (i := 534) (by decide +kernel)) rfl), (zi_tb_of (List.mem_of_getElem? (i := 32) (by decide +kernel)) rfl), by decide, by decide, by decide +kernel, by decide⟩, by decide +kernel, by decide, Or.inr (Or.inl ⟨rfl, rfl⟩), zpl_X0, zpl_X0_ok, zi_chk_ok (by decide +kernel)⟩
theorem zg_4 : zi_rg zi_recs zi_nps zr_4 := ⟨⟨(zi_tb_of (List.mem_of_getElem? (i := 602) (by decide +kernel)) rfl), (zi_tb_of (List.mem_of_getElem? (i := 32) (by decide +kernel)) rfl), by decide, by decide, by decide +kernel, by decide⟩, by decide +kernel, by decide, Or.inr (Or.inr (Or.inl ⟨rfl, rfl⟩)), zpl_X0, zpl_X0_ok, zi_chk_ok (by decide +kernel)⟩
theorem zg_5 : zi_rg zi_recs zi_nps zr_5 := ⟨⟨(zi_tb_of (List.mem_of_getElem? (i := 873) (by decide +kernel)) rfl), (zi_tb_of (List.mem_of_getElem? (i := 32) (by decide +kernel)) rfl), by decide, by decide, by decide +kernel, by decide⟩, by decide +kernel, by decide, Or.inl ⟨rfl, rfl⟩, zpl_X0, zpl_X0_ok, zi_chk_ok (by decide +kernel)⟩
theorem zg_6 : zi_rg zi_recs zi_nps zr_6 := ⟨⟨(zi_tb_of (List.mem_of_getElem? (i := 611) (by decide +kernel)) rfl), (zi_tb_of (List.mem_of_getElem? (i := 32) (by decide +kernel)) rfl), by decide, by decide, by decide +kernel, by decide⟩, by decide +kernel, by decide, Or.inr (Or.inl ⟨rfl, rfl⟩), zpl_X0, zpl_X0_ok, zi_chk_ok (by decide +kernel)⟩
theorem zg_7 : zi_rg zi_recs zi_nps zr_7 := ⟨⟨(zi_tb_of (List.mem_of_getElem? (i := 719) (by decide +kernel)) rfl), (zi_tb_of (List.mem_of_getElem? (i := 32) (by decide +kernel)) rfl), by decide, by decide, by decide +kernel, by decide⟩, by decide +kernel, by decide, Or.inr (Or.inl ⟨rfl, rfl⟩), zpl_X0, zpl_X0_ok, zi_chk_ok (by decide +kernel)⟩
theorem zg_8 : zi_rg zi_recs zi_nps zr_8 := ⟨⟨(zi_tb_of (List.mem_of_getElem? (i := 598) (by decide +kernel)) rfl), (zi_tb_of (List.mem_of_getElem? (i := 32) (by decide +kernel)) rfl), by decide, by decide, by decide +kernel, by decide⟩, by decide +kernel, by decide, Or.inr (Or.inr (Or.inl ⟨rfl, rfl⟩)), zpl_X0, zpl_X0_ok, zi_chk_ok (by decide +kernel)⟩
theorem zg_9 : zi_rg zi_recs zi_nps zr_9 := ⟨⟨(zi_tb_of (List.mem_of_getElem? (i := 812) (by decide +kernel)) rfl), (zi_tb_of (List.mem_of_getElem? (i := 32) (by decide +kernel)) rfl), by decide, by decide, by decide +kernel, by decide⟩, by decide +kernel, by decide, Or.inr (Or.inr (Or.inl ⟨rfl, rfl⟩)), zpl_X0, zpl_X0_ok, zi_chk_ok (by decide +kernel)⟩
theorem zg_10 : zi_rg zi_recs zi_nps zr_10 := ⟨⟨(zi_tb_of (List.mem_of_getElem? (i := 525) (by decide +kernel)) rfl), (zi_tb_of (List.mem_of_getElem? (i := 32) (by decide +kernel)) rfl), by decide, by decide, by decide +kernel, by decide⟩, by decide +kernel, by decide, Or.inr (Or.inr (Or.inl ⟨rfl, rfl⟩)), zpl_X0, zpl_X0_ok, zi_chk_ok (by decide +kernel)⟩
theorem zg_11 : zi_rg zi_recs zi_nps zr_11 := ⟨⟨(zi_tb_of (List.mem_of_getElem? (i := 541) (by decide +kernel)) rfl), (zi_tb_of (List.mem_of_getElem? (i := 32) (by decide +kernel)) rfl), by decide, by decide, by decide +kernel, by decide⟩, by decide +kernel, by decide, Or.inr (Or.inl ⟨rfl, rfl⟩), zpl_X0, zpl_X0_ok, zi_chk_ok (by decide +kernel)⟩
theorem zg_12 : zi_rg zi_recs zi_nps zr_12 := ⟨⟨(zi_tb_of (List.mem_of_getElem? (i := 500) (by decide +kernel)) rfl), (zi_tb_of (List.mem_of_getElem? (i := 32) (by decide +kernel)) rfl), by decide, by decide, by decide +kernel, by decide⟩, by decide +kernel, by decide, Or.inl ⟨rfl, rfl⟩, zpl_X0, zpl_X0_ok, zi_chk_ok (by decide +kernel)⟩
theorem zg_13 : zi_rg zi_recs zi_nps zr_13 := ⟨⟨(zi_tb_of (List.mem_of_getElem? (i := 820) (by decide +kernel)) rfl), (zi_tb_of (List.mem_of_getElem? (i := 32) (by decide +kernel)) rfl), by decide, by decide, by decide +kernel, by decide⟩, by decide +kernel, by decide, Or.inl ⟨rfl, rfl⟩, zpl_X0, zpl_X0_ok, zi_chk_ok (by decide +kernel)⟩
theorem zg_14 : zi_rg zi_recs zi_nps zr_14 := ⟨⟨(zi_tb_of (List.mem_of_getElem? (i := 794) (by decide +kernel)) rfl), (zi_tb_of (List.mem_of_getElem? (i := 32) (by decide +kernel)) rfl), by decide, by decide, by decide +kernel, by decide⟩, by decide +kernel, by decide, Or.inl ⟨rfl, rfl⟩, zpl_X0, zpl_X0_ok, zi_chk_ok (by decide +kernel)⟩
theorem zg_15 : zi_rg zi_recs zi_nps zr_15 := ⟨⟨(zi_tb_of (List.mem_of_getElem? (i := 754) (by decide +kernel)) rfl), (zi_tb_of (List.mem_of_getElem? (i := 32) (by decide +kernel)) rfl), by decide, by decide, by decide +kernel, by decide⟩, by decide +kernel, by decide, Or.inl ⟨rfl, rfl⟩, zpl_X0, zpl_X0_ok, zi_chk_ok (by decide +kernel)⟩
theorem zg_16 : zi_rg zi_recs zi_nps zr_16 := ⟨⟨(zi_tb_of (List.mem_of_getElem? (i := 537) (by decide +kernel)) rfl), (zi_tb_of (List.mem_of_getElem? (i := 32) (by decide +kernel)) rfl), by decide, by decide, by decide +kernel, by decide⟩, by decide +kernel, by decide, Or.inr (Or.inr (Or.inl ⟨rfl, rfl⟩)), zpl_X0, zpl_X0_ok, zi_chk_ok (by decide +kernel)⟩
theorem zg_17 : zi_rg zi_recs zi_nps zr_17 := ⟨⟨(zi_tb_of (List.mem_of_getElem? (i := 544) (by decide +kernel)) rfl), (zi_tb_of (List.mem_of_getElem? (i := 32) (by decide +kernel)) rfl), by decide, by decide, by decide +kernel, by decide⟩, by decide +kernel, by decide, Or.inr (Or.inr (Or.inl ⟨rfl, rfl⟩)), zpl_X0, zpl_X0_ok, zi_chk_ok (by decide +kernel)⟩
theorem zg_18 : zi_rg zi_recs zi_nps zr_18 := ⟨⟨(zi_tb_of (List.mem_of_getElem? (i := 548) (by decide +kernel)) rfl), (zi_tb_of (List.mem_of_getElem? (i := 32) (by decide +kernel)) rfl), by decide, by decide, by decide +kernel, by decide⟩, by decide +kernel, by decide, Or.inl ⟨rfl, rfl⟩, zpl_X0, zpl_X0_ok, zi_chk_ok (by decide +kernel)⟩
theorem zg_19 : zi_rg zi_recs zi_nps zr_19 := ⟨⟨(zi_tb_of (List.mem_of_getElem? (i := 113) (by decide +kernel)) rfl), (zi_tb_of (List.mem_of_getElem? (i := 30) (by decide +kernel)) rfl), by decide, by decide, by decide +kernel, by decide⟩, by decide +kernel, by decide, Or.inl ⟨rfl, rfl⟩, zpl_X1, zpl_X1_ok, zi_chk_ok (by decide +kernel)⟩
theorem zg_20 : zi_rg zi_recs zi_nps zr_20 := ⟨⟨(zi_tb_of (List.mem_of_getElem? (i := 491) (by decide +kernel)) rfl), (zi_tb_of (List.mem_of_getElem? (i := 30) (by decide +kernel)) rfl), by decide, by decide, by decide +kernel, by decide⟩, by decide +kernel, by decide, Or.inl ⟨rfl, rfl⟩, zpl_X1, zpl_X1_ok, zi_chk_ok (by decide +kernel)⟩
theorem zg_21 : zi_rg zi_recs zi_nps zr_21 := ⟨⟨(zi_tb_of (List.mem_of_getElem? (i := 739) (by decide +kernel)) rfl), (zi_tb_of (List.mem_of_getElem? (i := 30) (by decide +kernel)) rfl), by decide, by decide, by decide +kernel, by decide⟩, by decide +kernel, by decide, Or.inl ⟨rfl, rfl⟩, zpl_X1, zpl_X1_ok, zi_chk_ok (by decide +kernel)⟩
theorem zg_22 : zi_rg zi_recs zi_nps zr_22 := ⟨⟨(zi_tb_of (List.mem_of_getElem? (i := 606) (by decide +kernel)) rfl), (zi_tb_of (List.mem_of_getElem? (i := 30) (by decide +kernel)) rfl), by decide, by decide, by decide +kernel, by decide⟩, by decide +kernel, by decide, Or.inr (Or.inl ⟨rfl, rfl⟩), zpl_X1, zpl_X1_ok, zi_chk_ok (by decide +kernel)⟩
theorem zg_23 : zi_rg zi_recs zi_nps zr_23 := ⟨⟨(zi_tb_of (List.mem_of_getElem? (i := 833) (by decide +kernel)) rfl), (zi_tb_of (List.mem_of_getElem? (i := 30) (by decide +kernel)) rfl), by decide, by decide, by decide +kernel, by decide⟩, by decide +kernel, by decide, Or.inr (Or.inl ⟨rfl, rfl⟩), zpl_X1, zpl_X1_ok, zi_chk_ok (by decide +kernel)⟩
theorem zg_24 : zi_rg zi_recs zi_nps zr_24 := ⟨⟨(zi_tb_of (List.mem_of_getElem? (i := 837) (by decide +kernel)) rfl), (zi_tb_of (List.mem_of_getElem? (i := 30) (by decide +kernel)) rfl), by decide, by decide, by decide +kernel, by decide⟩, by decide +kernel, by decide, Or.inr (Or.inl ⟨rfl, rfl⟩), zpl_X1, zpl_X1_ok, zi_chk_ok (by decide +kernel)⟩
theorem zg_25 : zi_rg zi_recs zi_nps zr_25 := ⟨⟨(zi_tb_of (List.mem_of_getElem? (i := 106) (by decide +kernel)) rfl), (zi_tb_of (List.mem_of_getElem? (i := 29) (by decide +kernel)) rfl), by decide, by decide, by decide +kernel, by decide⟩, by decide +kernel, by decide, Or.inl ⟨rfl, rfl⟩, zpl_X2, zpl_X2_ok, zi_chk_ok (by decide +kernel)⟩
theorem zg_26 : zi_rg zi_recs zi_nps zr_26 := ⟨⟨(zi_tb_of (List.mem_of_getElem? (i := 562) (by decide +kernel)) rfl), (zi_tb_of (List.mem_of_getElem? (i := 29) (by decide +kernel)) rfl), by decide, by decide, by decide +kernel, by decide⟩, by decide +kernel, by decide, Or.inl ⟨rfl, rfl⟩, zpl_X2, zpl_X2_ok, zi_chk_ok (by decide +kernel)⟩
theorem zg_27 : zi_rg zi_recs zi_nps zr_27 := ⟨⟨(zi_tb_of (List.mem_of_getElem? (i := 731) (by decide +kernel)) rfl), (zi_tb_of (List.mem_of_getElem? (i := 29) (by decide +kernel)) rfl), by decide, by decide, by decide +kernel, by decide⟩, by decide +kernel, by decide, Or.inl ⟨rfl, rfl⟩, zpl_X2, zpl_X2_ok, zi_chk_ok (by decide +kernel)⟩
theorem zg_28 : zi_rg zi_recs zi_nps zr_28 := ⟨⟨(zi_tb_of (List.mem_of_getElem? (i := 898) (by decide +kernel)) rfl), (zi_tb_of (List.mem_of_getElem? (i := 29) (by decide +kernel)) rfl), by decide, by decide, by decide +kernel, by decide⟩, by decide +kernel, by decide, Or.inr (Or.inr (Or.inr ⟨rfl, _, rfl⟩)), zpl_X2, zpl_X2_ok, zi_chk_ok (by decide +kernel)⟩
theorem zg_29 : zi_rg zi_recs zi_nps zr_29 := ⟨⟨(zi_tb_of (List.mem_of_getElem? (i := 910) (by decide +kernel)) rfl), (zi_tb_of (List.mem_of_getElem? (i := 29) (by decide +kernel)) rfl), by decide, by decide, by decide +kernel, by decide⟩, by decide +kernel, by decide, Or.inr (Or.inr (Or.inr ⟨rfl, _, rfl⟩)), zpl_X2, zpl_X2_ok, zi_chk_ok (by decide +kernel)⟩
theorem zg_30 : zi_rg zi_recs zi_nps zr_30 := ⟨⟨(zi_tb_of (List.mem_of_getElem? (i := 902) (by decide +kernel)) rfl), (zi_tb_of (List.mem_of_getElem? (i := 29) (by decide +kernel)) rfl), by decide, by decide, by decide +kernel, by decide⟩, by decide +kernel, by decide, Or.inr (Or.inr (Or.inr ⟨rfl, _, rfl⟩)), zpl_X2, zpl_X2_ok, zi_chk_ok (by decide +kernel)⟩
theorem zg_31 : zi_rg zi_recs zi_nps zr_31 := ⟨⟨(zi_tb_of (List.mem_of_getElem? (i := 735) (by decide +kernel)) rfl), (zi_tb_of (List.mem_of_getElem? (i := 29) (by decide +kernel)) rfl), by decide, by decide, by decide +kernel, by decide⟩, by decide +kernel, by decide, Or.inl ⟨rfl, rfl⟩, zpl_X2, zpl_X2_ok, zi_chk_ok (by decide +kernel)⟩
theorem zg_32 : zi_rg zi_recs zi_nps zr_32 := ⟨⟨(zi_tb_of (List.mem_of_getElem? (i := 254) (by decide +kernel)) rfl), (zi_tb_of (List.mem_of_getElem? (i := 35) (by decide +kernel)) rfl), by decide, by decide, by decide +kernel, by decide⟩, by decide +kernel, by decide, Or.inl ⟨rfl, rfl⟩, zpl_X3, zpl_X3_ok, zi_chk_ok (by decide +kernel)⟩
theorem zg_33 : zi_rg zi_recs zi_nps zr_33 := ⟨⟨(zi_tb_of (List.mem_of_getElem? (i := 199) (by decide +kernel)) rfl), (zi_tb_of (List.mem_of_getElem? (i := 34) (by decide +kernel)) rfl), by decide, by decide, by decide +kernel, by decide⟩, by decide +kernel, by decide, Or.inl ⟨rfl, rfl⟩, zpl_X4, zpl_X4_ok, zi_chk_ok (by decide +kernel)⟩
theorem zg_34 : zi_rg zi_recs zi_nps zr_34 := ⟨⟨(zi_tb_of (List.mem_of_getElem? (i := 306) (by decide +kernel)) rfl), (zi_tb_of (List.mem_of_getElem? (i := 34) (by decide +kernel)) rfl), by decide, by decide, by decide +kernel, by decide⟩, by decide +kernel, by decide, Or.inl ⟨rfl, rfl⟩, zpl_X4, zpl_X4_ok, zi_chk_ok (by decide +kernel)⟩
theorem zg_35 : zi_rg zi_recs zi_nps zr_35 := ⟨⟨(zi_tb_of (List.mem_of_getElem? (i := 645) (by decide +kernel)) rfl), (zi_tb_of (List.mem_of_getElem? (i := 34) (by decide +kernel)) rfl), by decide, by decide, by decide +kernel, by decide⟩, by decide +kernel, by decide, Or.inr (Or.inl ⟨rfl, rfl⟩), zpl_X4, zpl_X4_ok, zi_chk_ok (by decide +kernel)⟩
theorem zg_36 : zi_rg zi_recs zi_nps zr_36 := ⟨⟨(zi_tb_of (List.mem_of_getElem? (i := 650) (by decide +kernel)) rfl), (zi_tb_of (List.mem_of_getElem? (i := 34) (by decide +kernel)) rfl), by decide, by decide, by decide +kernel, by decide⟩, by decide +kernel, by decide, Or.inr (Or.inl ⟨rfl, rfl⟩), zpl_X4, zpl_X4_ok, zi_chk_ok (by decide +kernel)⟩
theorem zg_37 : zi_rg zi_recs zi_nps zr_37 := ⟨⟨(zi_tb_of (List.mem_of_getElem? (i := 654) (by decide +kernel)) rfl), (zi_tb_of (List.mem_of_getElem? (i := 34) (by decide +kernel)) rfl), by decide, by decide, by decide +kernel, by decide⟩, by decide +kernel, by decide, Or.inr (Or.inl ⟨rfl, rfl⟩), zpl_X4, zpl_X4_ok, zi_chk_ok (by decide +kernel)⟩
theorem zg_38 : zi_rg zi_recs zi_nps zr_38 := ⟨⟨(zi_tb_of (List.mem_of_getElem? (i := 402) (by decide +kernel)) rfl), (zi_tb_of (List.mem_of_getElem? (i := 34) (by decide +kernel)) rfl), by decide, by decide, by decide +kernel, by decide⟩, by decide +kernel, by decide, Or.inr (Or.inr (Or.inl ⟨rfl, rfl⟩)), zpl_X4, zpl_X4_ok, zi_chk_ok (by decide +kernel)⟩
theorem zg_39 : zi_rg zi_recs zi_nps zr_39 := ⟨⟨(zi_tb_of (List.mem_of_getElem? (i := 676) (by decide +kernel)) rfl), (zi_tb_of (List.mem_of_getElem? (i := 34) (by decide +kernel)) rfl), by decide, by decide, by decide +kernel, by decide⟩, by decide +kernel, by decide, Or.inr (Or.inr (Or.inl ⟨rfl, rfl⟩)), zpl_X4, zpl_X4_ok, zi_chk_ok (by decide +kernel)⟩
theorem zg_40 : zi_rg zi_recs zi_nps zr_40 := ⟨⟨(zi_tb_of (List.mem_of_getElem? (i := 671) (by decide +kernel)) rfl), (zi_tb_of (List.mem_of_getElem? (i := 34) (by decide +kernel)) rfl), by decide, by decide, by decide +kernel, by decide⟩, by decide +kernel, by decide, Or.inr (Or.inl ⟨rfl, rfl⟩), zpl_X4, zpl_X4_ok, zi_chk_ok (by decide +kernel)⟩
theorem zg_41 : zi_rg zi_recs zi_nps zr_41 := ⟨⟨(zi_tb_of (List.mem_of_getElem? (i := 381) (by decide +kernel)) rfl), (zi_tb_of (List.mem_of_getElem? (i := 34) (by decide +kernel)) rfl), by decide, by decide, by decide +kernel, by decide⟩, by decide +kernel, by decide, Or.inr (Or.inl ⟨rfl, rfl⟩), zpl_X4, zpl_X4_ok, zi_chk_ok (by decide +kernel)⟩
theorem zg_42 : zi_rg zi_recs zi_nps zr_42 := ⟨⟨(zi_tb_of (List.mem_of_getElem? (i := 354) (by decide +kernel)) rfl), (zi_tb_of (List.mem_of_getElem? (i := 34) (by decide +kernel)) rfl), by decide, by decide, by decide +kernel, by decide⟩, by decide +kernel, by decide, Or.inr (Or.inl ⟨rfl, rfl⟩), zpl_X4, zpl_X4_ok, zi_chk_ok (by decide +kernel)⟩
theorem zg_43 : zi_rg zi_recs zi_nps zr_43 := ⟨⟨(zi_tb_of (List.mem_of_getElem? (i := 359) (by decide +kernel)) rfl), (zi_tb_of (List.mem_of_getElem? (i := 34) (by decide +kernel)) rfl), by decide, by decide, by decide +kernel, by decide⟩, by decide +kernel, by decide, Or.inr (Or.inl ⟨rfl, rfl⟩), zpl_X4, zpl_X4_ok, zi_chk_ok (by decide +kernel)⟩
theorem zg_44 : zi_rg zi_recs zi_nps zr_44 := ⟨⟨(zi_tb_of (List.mem_of_getElem? (i := 385) (by decide +kernel)) rfl), (zi_tb_of (List.mem_of_getElem? (i := 34) (by decide +kernel)) rfl), by decide, by decide, by decide +kernel, by decide⟩, by decide +kernel, by decide, Or.inr (Or.inl ⟨rfl, rfl⟩), zpl_X4, zpl_X4_ok, zi_chk_ok (by decide +kernel)⟩
theorem zg_45 : zi_rg zi_recs zi_nps zr_45 := ⟨⟨(zi_tb_of (List.mem_of_getElem? (i := 684) (by decide +kernel)) rfl), (zi_tb_of (List.mem_of_getElem? (i := 34) (by decide +kernel)) rfl), by decide, by decide, by decide +kernel, by decide⟩, by decide +kernel, by decide, Or.inr (Or.inl ⟨rfl, rfl⟩), zpl_X4, zpl_X4_ok, zi_chk_ok (by decide +kernel)⟩
theorem zg_46 : zi_rg zi_recs zi_nps zr_46 := ⟨⟨(zi_tb_of (List.mem_of_getElem? (i := 692) (by decide +kernel)) rfl), (zi_tb_of (List.mem_of_getElem? (i := 34) (by decide +kernel)) rfl), by decide, by decide, by decide +kernel, by decide⟩, by decide +kernel, by decide, Or.inr (Or.inl ⟨rfl, rfl⟩), zpl_X4, zpl_X4_ok, zi_chk_ok (by decide +kernel)⟩
theorem zg_47 : zi_rg zi_recs zi_nps zr_47 := ⟨⟨(zi_tb_of (List.mem_of_getElem? (i := 398) (by decide +kernel)) rfl), (zi_tb_of (List.mem_of_getElem? (i := 34) (by decide +kernel)) rfl), by decide, by decide, by decide +kernel, by decide⟩, by decide +kernel, by decide, Or.inr (Or.inl ⟨rfl, rfl⟩), zpl_X4, zpl_X4_ok, zi_chk_ok (by decide +kernel)⟩
theorem zg_48 : zi_rg zi_recs zi_nps zr_48 := ⟨⟨(zi_tb_of (List.mem_of_getElem? (i := 828) (by decide +kernel)) rfl), (zi_tb_of (List.mem_of_getElem? (i := 34) (by decide +kernel)) rfl), by decide, by decide, by decide +kernel, by decide⟩, by decide +kernel, by decide, Or.inr (Or.inl ⟨rfl, rfl⟩), zpl_X4, zpl_X4_ok, zi_chk_ok (by decide +kernel)⟩
theorem zg_49 : zi_rg zi_recs zi_nps zr_49 := ⟨⟨(zi_tb_of (List.mem_of_getElem? (i := 799) (by decide +kernel)) rfl), (zi_tb_of (List.mem_of_getElem? (i := 34) (by decide +kernel)) rfl), by decide, by decide, by decide +kernel, by decide⟩, by decide +kernel, by decide, Or.inr (Or.inl ⟨rfl, rfl⟩), zpl_X4, zpl_X4_ok, zi_chk_ok (by decide +kernel)⟩
theorem zg_50 : zi_rg zi_recs zi_nps zr_50 := ⟨⟨(zi_tb_of (List.mem_of_getElem? (i := 317) (by decide +kernel)) rfl), (zi_tb_of (List.mem_of_getElem? (i := 34) (by decide +kernel)) rfl), by decide, by decide, by decide +kernel, by decide⟩, by decide +kernel, by decide, Or.inr (Or.inl ⟨rfl, rfl⟩), zpl_X4, zpl_X4_ok, zi_chk_ok (by decide +kernel)⟩
theorem zg_51 : zi_rg zi_recs zi_nps zr_51 := ⟨⟨(zi_tb_of (List.mem_of_getElem? (i := 335) (by decide +kernel)) rfl), (zi_tb_of (List.mem_of_getElem? (i := 34) (by decide +kernel)) rfl), by decide, by decide, by decide +kernel, by decide⟩, by decide +kernel, by decide, Or.inl ⟨rfl, rfl⟩, zpl_X4, zpl_X4_ok, zi_chk_ok (by decide +kernel)⟩
theorem zg_52 : zi_rg zi_recs zi_nps zr_52 := ⟨⟨(zi_tb_of (List.mem_of_getElem? (i := 389) (by decide +kernel)) rfl), (zi_tb_of (List.mem_of_getElem? (i := 34) (by decide +kernel)) rfl), by decide, by decide, by decide +kernel, by decide⟩, by decide +kernel, by decide, Or.inl ⟨rfl, rfl⟩, zpl_X4, zpl_X4_ok, zi_chk_ok (by decide +kernel)⟩
theorem zg_53 : zi_rg zi_recs zi_nps zr_53 := ⟨⟨(zi_tb_of (List.mem_of_getElem? (i := 350) (by decide +kernel)) rfl), (zi_tb_of (List.mem_of_getElem? (i := 34) (by decide +kernel)) rfl), by decide, by decide, by decide +kernel, by decide⟩, by decide +kernel, by decide, Or.inr (Or.inl ⟨rfl, rfl⟩), zpl_X4, zpl_X4_ok, zi_chk_ok (by decide +kernel)⟩
theorem zg_54 : zi_rg zi_recs zi_nps zr_54 := ⟨⟨(zi_tb_of (List.mem_of_getElem? (i := 377) (by decide +kernel)) rfl), (zi_tb_of (List.mem_of_getElem? (i := 34) (by decide +kernel)) rfl), by decide, by decide, by decide +kernel, by decide⟩, by decide +kernel, by decide, Or.inr (Or.inl ⟨rfl, rfl⟩), zpl_X4, zpl_X4_ok, zi_chk_ok (by decide +kernel)⟩
theorem zg_55 : zi_rg zi_recs zi_nps zr_55 := ⟨⟨(zi_tb_of (List.mem_of_getElem? (i := 119) (by decide +kernel)) rfl), (zi_tb_of (List.mem_of_getElem? (i := 31) (by decide +kernel)) rfl), by decide, by decide, by decide +kernel, by decide⟩, by decide +kernel, by decide, Or.inl ⟨rfl, rfl⟩, zpl_X5, zpl_X5_ok, zi_chk_ok (by decide +kernel)⟩
theorem zg_56 : zi_rg zi_recs zi_nps zr_56 := ⟨⟨(zi_tb_of (List.mem_of_getElem? (i := 639) (by decide +kernel)) rfl), (zi_tb_of (List.mem_of_getElem? (i := 31) (by decide +kernel)) rfl), by decide, by decide, by decide +kernel, by decide⟩, by decide +kernel, by decide, Or.inr (Or.inr (Or.inl ⟨rfl, rfl⟩)), zpl_X5, zpl_X5_ok, zi_chk_ok (by decide +kernel)⟩
theorem zg_57 : zi_rg zi_recs zi_nps zr_57 := ⟨⟨(zi_tb_of (List.mem_of_getElem? (i := 662) (by decide +kernel)) rfl), (zi_tb_of (List.mem_of_getElem? (i := 31) (by decide +kernel)) rfl), by decide, by decide, by decide +kernel, by decide⟩, by decide +kernel, by decide, Or.inr (Or.inr (Or.inl ⟨rfl, rfl⟩)), zpl_X5, zpl_X5_ok, zi_chk_ok (by decide +kernel)⟩
theorem zg_58 : zi_rg zi_recs zi_nps zr_58 := ⟨⟨(zi_tb_of (List.mem_of_getElem? (i := 310) (by decide +kernel)) rfl), (zi_tb_of (List.mem_of_getElem? (i := 31) (by decide +kernel)) rfl), by decide, by decide, by decide +kernel, by decide⟩, by decide +kernel, by decide, Or.inr (Or.inl ⟨rfl, rfl⟩), zpl_X5, zpl_X5_ok, zi_chk_ok (by decide +kernel)⟩
theorem zg_59 : zi_rg zi_recs zi_nps zr_59 := ⟨⟨(zi_tb_of (List.mem_of_getElem? (i := 582) (by decide +kernel)) rfl), (zi_tb_of (List.mem_of_getElem? (i := 31) (by decide +kernel)) rfl), by decide, by decide, by decide +kernel, by decide⟩, by decide +kernel, by decide, Or.inr (Or.inl ⟨rfl, rfl⟩), zpl_X5, zpl_X5_ok, zi_chk_ok (by decide +kernel)⟩
theorem zg_60 : zi_rg zi_recs zi_nps zr_60 := ⟨⟨(zi_tb_of (List.mem_of_getElem? (i := 321) (by decide +kernel)) rfl), (zi_tb_of (List.mem_of_getElem? (i := 31) (by decide +kernel)) rfl), by decide, by decide, by decide +kernel, by decide⟩, by decide +kernel, by decide, Or.inr (Or.inl ⟨rfl, rfl⟩), zpl_X5, zpl_X5_ok, zi_chk_ok (by decide +kernel)⟩
theorem zg_61 : zi_rg zi_recs zi_nps zr_61 := ⟨⟨(zi_tb_of (List.mem_of_getElem? (i := 495) (by decide +kernel)) rfl), (zi_tb_of (List.mem_of_getElem? (i := 31) (by decide +kernel)) rfl), by decide, by decide, by decide +kernel, by decide⟩, by decide +kernel, by decide, Or.inl ⟨rfl, rfl⟩, zpl_X5, zpl_X5_ok, zi_chk_ok (by decide +kernel)⟩
theorem zg_62 : zi_rg zi_recs zi_nps zr_62 := ⟨⟨(zi_tb_of (List.mem_of_getElem? (i := 513) (by decide +kernel)) rfl), (zi_tb_of (List.mem_of_getElem? (i := 31) (by decide +kernel)) rfl), by decide, by decide, by decide +kernel, by decide⟩, by decide +kernel, by decide, Or.inl ⟨rfl, rfl⟩, zpl_X5, zpl_X5_ok, zi_chk_ok (by decide +kernel)⟩
theorem zg_63 : zi_rg zi_recs zi_nps zr_63 := ⟨⟨(zi_tb_of (List.mem_of_getElem? (i := 557) (by decide +kernel)) rfl), (zi_tb_of (List.mem_of_getElem? (i := 31) (by decide +kernel)) rfl), by decide, by decide, by decide +kernel, by decide⟩, by decide +kernel, by decide, Or.inl ⟨rfl, rfl⟩, zpl_X5, zpl_X5_ok, zi_chk_ok (by decide +kernel)⟩
theorem zg_64 : zi_rg zi_recs zi_nps zr_64 := ⟨⟨(zi_tb_of (List.mem_of_getElem? (i := 759) (by decide +kernel)) rfl), (zi_tb_of (List.mem_of_getElem? (i := 31) (by decide +kernel)) rfl), by decide, by decide, by decide +kernel, by decide⟩, by decide +kernel, by decide, Or.inl ⟨rfl, rfl⟩, zpl_X5, zpl_X5_ok, zi_chk_ok (by decide +kernel)⟩
theorem zg_65 : zi_rg zi_recs zi_nps zr_65 := ⟨⟨(zi_tb_of (List.mem_of_getElem? (i := 804) (by decide +kernel)) rfl), (zi_tb_of (List.mem_of_getElem? (i := 31) (by decide +kernel)) rfl), by decide, by decide, by decide +kernel, by decide⟩, by decide +kernel, by decide, Or.inl ⟨rfl, rfl⟩, zpl_X5, zpl_X5_ok, zi_chk_ok (by decide +kernel)⟩
theorem zg_66 : zi_rg zi_recs zi_nps zr_66 := ⟨⟨(zi_tb_of (List.mem_of_getElem? (i := 816) (by decide +kernel)) rfl), (zi_tb_of (List.mem_of_getElem? (i := 31) (by decide +kernel)) rfl), by decide, by decide, by decide +kernel, by decide⟩, by decide +kernel, by decide, Or.inl ⟨rfl, rfl⟩, zpl_X5, zpl_X5_ok, zi_chk_ok (by decide +kernel)⟩
theorem zg_67 : zi_rg zi_recs zi_nps zr_67 := ⟨⟨(zi_tb_of (List.mem_of_getElem? (i := 781) (by decide +kernel)) rfl), (zi_tb_of (List.mem_of_getElem? (i := 31) (by decide +kernel)) rfl), by decide, by decide, by decide +kernel, by decide⟩, by decide +kernel, by decide, Or.inl ⟨rfl, rfl⟩, zpl_X5, zpl_X5_ok, zi_chk_ok (by decide +kernel)⟩
theorem zg_68 : zi_rg zi_recs zi_nps zr_68 := ⟨⟨(zi_tb_of (List.mem_of_getElem? (i := 743) (by decide +kernel)) rfl), (zi_tb_of (List.mem_of_getElem? (i := 31) (by decide +kernel)) rfl), by decide, by decide, by decide +kernel, by decide⟩, by decide +kernel, by decide, Or.inl ⟨rfl, rfl⟩, zpl_X5, zpl_X5_ok, zi_chk_ok (by decide +kernel)⟩
theorem zg_69 : zi_rg zi_recs zi_nps zr_69 := ⟨⟨(zi_tb_of (List.mem_of_getElem? (i := 790) (by decide +kernel)) rfl), (zi_tb_of (List.mem_of_getElem? (i := 31) (by decide +kernel)) rfl), by decide, by decide, by decide +kernel, by decide⟩, by decide +kernel, by decide, Or.inl ⟨rfl, rfl⟩, zpl_X5, zpl_X5_ok, zi_chk_ok (by decide +kernel)⟩
theorem zg_70 : zi_rg zi_recs zi_nps zr_70 := ⟨⟨(zi_tb_of (List.mem_of_getElem? (i := 785) (by decide +kernel)) rfl), (zi_tb_of (List.mem_of_getElem? (i := 31) (by decide +kernel)) rfl), by decide, by decide, by decide +kernel, by decide⟩, by decide +kernel, by decide, Or.inl ⟨rfl, rfl⟩, zpl_X5, zpl_X5_ok, zi_chk_ok (by decide +kernel)⟩
theorem zg_71 : zi_rg zi_recs zi_nps zr_71 := ⟨⟨(zi_tb_of (List.mem_of_getElem? (i := 764) (by decide +kernel)) rfl), (zi_tb_of (List.mem_of_getElem? (i := 31) (by decide +kernel)) rfl), by decide, by decide, by decide +kernel, by decide⟩, by decide +kernel, by decide, Or.inl ⟨rfl, rfl⟩, zpl_X5, zpl_X5_ok, zi_chk_ok (by decide +kernel)⟩
theorem zg_72 : zi_rg zi_recs zi_nps zr_72 := ⟨⟨(zi_tb_of (List.mem_of_getElem? (i := 313) (by decide +kernel)) rfl), (zi_tb_of (List.mem_of_getElem? (i := 37) (by decide +kernel)) rfl), by decide, by decide, by decide +kernel, by decide⟩, by decide +kernel, by decide, Or.inr (Or.inl ⟨rfl, rfl⟩), zpl_X6, zpl_X6_ok, zi_chk_ok (by decide +kernel)⟩
theorem zg_73 : zi_rg zi_recs zi_nps zr_73 := ⟨⟨(zi_tb_of (List.mem_of_getElem? (i := 346) (by decide +kernel)) rfl), (zi_tb_of (List.mem_of_getElem? (i := 37) (by decide +kernel)) rfl), by decide, by decide, by decide +kernel, by decide⟩, by decide +kernel, by decide, Or.inl ⟨rfl, rfl⟩, zpl_X6, zpl_X6_ok, zi_chk_ok (by decide +kernel)⟩
theorem zg_74 : zi_rg zi_recs zi_nps zr_74 := ⟨⟨(zi_tb_of (List.mem_of_getElem? (i := 746) (by decide +kernel)) rfl), (zi_tb_of (List.mem_of_getElem? (i := 37) (by decide +kernel)) rfl), by decide, by decide, by decide +kernel, by decide⟩, by decide +kernel, by decide, Or.inl ⟨rfl, rfl⟩, zpl_X6, zpl_X6_ok, zi_chk_ok (by decide +kernel)⟩
theorem zg_75 : zi_rg zi_recs zi_nps zr_75 := ⟨⟨(zi_tb_of (List.mem_of_getElem? (i := 585) (by decide +kernel)) rfl), (zi_tb_of (List.mem_of_getElem? (i := 37) (by decide +kernel)) rfl), by decide, by decide, by decide +kernel, by decide⟩, by decide +kernel, by decide, Or.inr (Or.inl ⟨rfl, rfl⟩), zpl_X6, zpl_X6_ok, zi_chk_ok (by decide +kernel)⟩
theorem zg_76 : zi_rg zi_recs zi_nps zr_76 := ⟨⟨(zi_tb_of (List.mem_of_getElem? (i := 192) (by decide +kernel)) rfl), (zi_tb_of (List.mem_of_getElem? (i := 33) (by decide +kernel)) rfl), by decide, by decide, by decide +kernel, by decide⟩, by decide +kernel, by decide, Or.inl ⟨rfl, rfl⟩, zpl_X7, zpl_X7_ok, zi_chk_ok (by decide +kernel)⟩
theorem zg_77 : zi_rg zi_recs zi_nps zr_77 := ⟨⟨(zi_tb_of (List.mem_of_getElem? (i := 302) (by decide +kernel)) rfl), (zi_tb_of (List.mem_of_getElem? (i := 33) (by decide +kernel)) rfl), by decide, by decide, by decide +kernel, by decide⟩, by decide +kernel, by decide, Or.inr (Or.inr (Or.inr ⟨rfl, _, rfl⟩)), zpl_X7, zpl_X7_ok, zi_chk_ok (by decide +kernel)⟩
theorem zg_78 : zi_rg zi_recs zi_nps zr_78 := ⟨⟨(zi_tb_of (List.mem_of_getElem? (i := 298) (by decide +kernel)) rfl), (zi_tb_of (List.mem_of_getElem? (i := 33) (by decide +kernel)) rfl), by decide, by decide, by decide +kernel, by decide⟩, by decide +kernel, by decide, Or.inl ⟨rfl, rfl⟩, zpl_X7, zpl_X7_ok, zi_chk_ok (by decide +kernel)⟩
theorem zg_79 : zi_rg zi_recs zi_nps zr_79 := ⟨⟨(zi_tb_of (List.mem_of_getElem? (i := 590) (by decide +kernel)) rfl), (zi_tb_of (List.mem_of_getElem? (i := 33) (by decide +kernel)) rfl), by decide, by decide, by decide +kernel, by decide⟩, by decide +kernel, by decide, Or.inr (Or.inl ⟨rfl, rfl⟩), zpl_X7, zpl_X7_ok, zi_chk_ok (by decide +kernel)⟩
theorem zg_80 : zi_rg zi_recs zi_nps zr_80 := ⟨⟨(zi_tb_of (List.mem_of_getElem? (i := 594) (by decide +kernel)) rfl), (zi_tb_of (List.mem_of_getElem? (i := 33) (by decide +kernel)) rfl), by decide, by decide, by decide +kernel, by decide⟩, by decide +kernel, by decide, Or.inr (Or.inl ⟨rfl, rfl⟩), zpl_X7, zpl_X7_ok, zi_chk_ok (by decide +kernel)⟩
theorem zg_81 : zi_rg zi_recs zi_nps zr_81 := ⟨⟨(zi_tb_of (List.mem_of_getElem? (i := 667) (by decide +kernel)) rfl), (zi_tb_of (List.mem_of_getElem? (i := 33) (by decide +kernel)) rfl), by decide, by decide, by decide +kernel, by decide⟩, by decide +kernel, by decide, Or.inr (Or.inl ⟨rfl, rfl⟩), zpl_X7, zpl_X7_ok, zi_chk_ok (by decide +kernel)⟩
theorem zg_82 : zi_rg zi_recs zi_nps zr_82 := ⟨⟨(zi_tb_of (List.mem_of_getElem? (i := 627) (by decide +kernel)) rfl), (zi_tb_of (List.mem_of_getElem? (i := 33) (by decide +kernel)) rfl), by decide, by decide, by decide +kernel, by decide⟩, by decide +kernel, by decide, Or.inr (Or.inl ⟨rfl, rfl⟩), zpl_X7, zpl_X7_ok, zi_chk_ok (by decide +kernel)⟩
theorem zg_83 : zi_rg zi_recs zi_nps zr_83 := ⟨⟨(zi_tb_of (List.mem_of_getElem? (i := 80) (by decide +kernel)) rfl), (zi_tb_of (List.mem_of_getElem? (i := 28) (by decide +kernel)) rfl), by decide, by decide, by decide +kernel, by decide⟩, by decide +kernel, by decide, Or.inl ⟨rfl, rfl⟩, zpl_X8, zpl_X8_ok, zi_chk_ok (by decide +kernel)⟩
theorem zg_84 : zi_rg zi_recs zi_nps zr_84 := ⟨⟨(zi_tb_of (List.mem_of_getElem? (i := 855) (by decide +kernel)) rfl), (zi_tb_of (List.mem_of_getElem? (i := 28) (by decide +kernel)) rfl), by decide, by decide, by decide +kernel, by decide⟩, by decide +kernel, by decide, Or.inr (Or.inr (Or.inl ⟨rfl, rfl⟩)), zpl_X8, zpl_X8_ok, zi_chk_ok (by decide +kernel)⟩
theorem zg_85 : zi_rg zi_recs zi_nps zr_85 := ⟨⟨(zi_tb_of (List.mem_of_getElem? (i := 859) (by decide +kernel)) rfl), (zi_tb_of (List.mem_of_getElem? (i := 28) (by decide +kernel)) rfl), by decide, by decide, by decide +kernel, by decide⟩, by decide +kernel, by decide, Or.inr (Or.inl ⟨rfl, rfl⟩), zpl_X8, zpl_X8_ok, zi_chk_ok (by decide +kernel)⟩
theorem zg_86 : zi_rg zi_recs zi_nps zr_86 := ⟨⟨(zi_tb_of (List.mem_of_getElem? (i := 922) (by decide +kernel)) rfl), (zi_tb_of (List.mem_of_getElem? (i := 28) (by decide +kernel)) rfl), by decide, by decide, by decide +kernel, by decide⟩, by decide +kernel, by decide, Or.inl ⟨rfl, rfl⟩, zpl_X8, zpl_X8_ok, zi_chk_ok (by decide +kernel)⟩
theorem zg_87 : zi_rg zi_recs zi_nps zr_87 := ⟨⟨(zi_tb_of (List.mem_of_getElem? (i := 328) (by decide +kernel)) rfl), (zi_tb_of (List.mem_of_getElem? (i := 28) (by decide +kernel)) rfl), by decide, by decide, by decide +kernel, by decide⟩, by decide +kernel, by decide, Or.inr (Or.inl ⟨rfl, rfl⟩), zpl_X8, zpl_X8_ok, zi_chk_ok (by decide +kernel)⟩
theorem zg_88 : zi_rg zi_recs zi_nps zr_88 := ⟨⟨(zi_tb_of (List.mem_of_getElem? (i := 363) (by decide +kernel)) rfl), (zi_tb_of (List.mem_of_getElem? (i := 28) (by decide +kernel)) rfl), by decide, by decide, by decide +kernel, by decide⟩, by decide +kernel, by decide, Or.inr (Or.inl ⟨rfl, rfl⟩), zpl_X8, zpl_X8_ok, zi_chk_ok (by decide +kernel)⟩
theorem zg_89 : zi_rg zi_recs zi_nps zr_89 := ⟨⟨(zi_tb_of (List.mem_of_getElem? (i := 373) (by decide +kernel)) rfl), (zi_tb_of (List.mem_of_getElem? (i := 28) (by decide +kernel)) rfl), by decide, by decide, by decide +kernel, by decide⟩, by decide +kernel, by decide, Or.inr (Or.inr (Or.inl ⟨rfl, rfl⟩)), zpl_X8, zpl_X8_ok, zi_chk_ok (by decide +kernel)⟩
theorem zg_90 : zi_rg zi_recs zi_nps zr_90 := ⟨⟨(zi_tb_of (List.mem_of_getElem? (i := 276) (by decide +kernel)) rfl), (zi_tb_of (List.mem_of_getElem? (i := 36) (by decide +kernel)) rfl), by decide, by decide, by decide +kernel, by decide⟩, by decide +kernel, by decide, Or.inl ⟨rfl, rfl⟩, zpl_X9, zpl_X9_ok, zi_chk_ok (by decide +kernel)⟩
theorem zg_91 : zi_rg zi_recs zi_nps zr_91 := ⟨⟨(zi_tb_of (List.mem_of_getElem? (i := 52) (by decide +kernel)) rfl), (zi_tb_of (List.mem_of_getElem? (i := 27) (by decide +kernel)) rfl), by decide, by decide, by decide +kernel, by decide⟩, by decide +kernel, by decide, Or.inl ⟨rfl, rfl⟩, zpl_X10, zpl_X10_ok, zi_chk_ok (by decide +kernel)⟩
theorem zg_92 : zi_rg zi_recs zi_nps zr_92 := ⟨⟨(zi_tb_of (List.mem_of_getElem? (i := 461) (by decide +kernel)) rfl), (zi_tb_of (List.mem_of_getElem? (i := 27) (by decide +kernel)) rfl), by decide, by decide, by decide +kernel, by decide⟩, by decide +kernel, by decide, Or.inr (Or.inr (Or.inl ⟨rfl, rfl⟩)), zpl_X10, zpl_X10_ok, zi_chk_ok (by decide +kernel)⟩
theorem zg_93 : zi_rg zi_recs zi_nps zr_93 := ⟨⟨(zi_tb_of (List.mem_of_getElem? (i := 487) (by decide +kernel)) rfl), (zi_tb_of (List.mem_of_getElem? (i := 27) (by decide +kernel)) rfl), by decide, by decide, by decide +kernel, by decide⟩, by decide +kernel, by decide, Or.inr (Or.inl ⟨rfl, rfl⟩), zpl_X10, zpl_X10_ok, zi_chk_ok (by decide +kernel)⟩
theorem zg_94 : zi_rg zi_recs zi_nps zr_94 := ⟨⟨(zi_tb_of (List.mem_of_getElem? (i := 505) (by decide +kernel)) rfl), (zi_tb_of (List.mem_of_getElem? (i := 27) (by decide +kernel)) rfl), by decide, by decide, by decide +kernel, by decide⟩, by decide +kernel, by decide, Or.inr (Or.inl ⟨rfl, rfl⟩), zpl_X10, zpl_X10_ok, zi_chk_ok (by decide +kernel)⟩
theorem zg_95 : zi_rg zi_recs zi_nps zr_95 := ⟨⟨(zi_tb_of (List.mem_of_getElem? (i := 509) (by decide +kernel)) rfl), (zi_tb_of (List.mem_of_getElem? (i := 27) (by decide +kernel)) rfl), by decide, by decide, by decide +kernel, by decide⟩, by decide +kernel, by decide, Or.inr (Or.inl ⟨rfl, rfl⟩), zpl_X10, zpl_X10_ok, zi_chk_ok (by decide +kernel)⟩
theorem zg_96 : zi_rg zi_recs zi_nps zr_96 := ⟨⟨(zi_tb_of (List.mem_of_getElem? (i := 517) (by decide +kernel)) rfl), (zi_tb_of (List.mem_of_getElem? (i := 27) (by decide +kernel)) rfl), by decide, by decide, by decide +kernel, by decide⟩, by decide +kernel, by decide, Or.inr (Or.inl ⟨rfl, rfl⟩), zpl_X10, zpl_X10_ok, zi_chk_ok (by decide +kernel)⟩
theorem zg_97 : zi_rg zi_recs zi_nps zr_97 := ⟨⟨(zi_tb_of (List.mem_of_getElem? (i := 521) (by decide +kernel)) rfl), (zi_tb_of (List.mem_of_getElem? (i := 27) (by decide +kernel)) rfl), by decide, by decide, by decide +kernel, by decide⟩, by decide +kernel, by decide, Or.inr (Or.inl ⟨rfl, rfl⟩), zpl_X10, zpl_X10_ok, zi_chk_ok (by decide +kernel)⟩
theorem zg_98 : zi_rg zi_recs zi_nps zr_98 := ⟨⟨(zi_tb_of (List.mem_of_getElem? (i := 44) (by decide +kernel)) rfl), (zi_tb_of (List.mem_of_getElem? (i := 26) (by decide +kernel)) rfl), by decide, by decide, by decide +kernel, by decide⟩, by decide +kernel, by decide, Or.inl ⟨rfl, rfl⟩, zpl_X11, zpl_X11_ok, zi_chk_ok (by decide +kernel)⟩
theorem zg_99 : zi_rg zi_recs zi_nps zr_99 := ⟨⟨(zi_tb_of (List.mem_of_getElem? (i := 457) (by decide +kernel)) rfl), (zi_tb_of (List.mem_of_getElem? (i := 26) (by decide +kernel)) rfl), by decide, by decide, by decide +kernel, by decide⟩, by decide +kernel, by decide, Or.inr (Or.inl ⟨rfl, rfl⟩), zpl_X11, zpl_X11_ok, zi_chk_ok (by decide +kernel)⟩
theorem zg_100 : zi_rg zi_recs zi_nps zr_100 := ⟨⟨(zi_tb_of (List.mem_of_getElem? (i := 483) (by decide +kernel)) rfl), (zi_tb_of (List.mem_of_getElem? (i := 26) (by decide +kernel)) rfl), by decide, by decide, by decide +kernel, by decide⟩, by decide +kernel, by decide, Or.inr (Or.inl ⟨rfl, rfl⟩), zpl_X11, zpl_X11_ok, zi_chk_ok (by decide +kernel)⟩
theorem zg_101 : zi_rg zi_recs zi_nps zr_101 := ⟨⟨(zi_tb_of (List.mem_of_getElem? (i := 574) (by decide +kernel)) rfl), (zi_tb_of (List.mem_of_getElem? (i := 26) (by decide +kernel)) rfl), by decide, by decide, by decide +kernel, by decide⟩, by decide +kernel, by decide, Or.inr (Or.inl ⟨rfl, rfl⟩), zpl_X11, zpl_X11_ok, zi_chk_ok (by decide +kernel)⟩
theorem zg_102 : zi_rg zi_recs zi_nps zr_102 := ⟨⟨(zi_tb_of (List.mem_of_getElem? (i := 578) (by decide +kernel)) rfl), (zi_tb_of (List.mem_of_getElem? (i := 26) (by decide +kernel)) rfl), by decide, by decide, by decide +kernel, by decide⟩, by decide +kernel, by decide, Or.inr (Or.inl ⟨rfl, rfl⟩), zpl_X11, zpl_X11_ok, zi_chk_ok (by decide +kernel)⟩
theorem zg_103 : zi_rg zi_recs zi_nps zr_103 := ⟨⟨(zi_tb_of (List.mem_of_getElem? (i := 889) (by decide +kernel)) rfl), (zi_tb_of (List.mem_of_getElem? (i := 26) (by decide +kernel)) rfl), by decide, by decide, by decide +kernel, by decide⟩, by decide +kernel, by decide, Or.inr (Or.inl ⟨rfl, rfl⟩), zpl_X11, zpl_X11_ok, zi_chk_ok (by decide +kernel)⟩
theorem zg_104 : zi_rg zi_recs zi_nps zr_104 := ⟨⟨(zi_tb_of (List.mem_of_getElem? (i := 635) (by decide +kernel)) rfl), (zi_tb_of (List.mem_of_getElem? (i := 26) (by decide +kernel)) rfl), by decide, by decide, by decide +kernel, by decide⟩, by decide +kernel, by decide, Or.inr (Or.inl ⟨rfl, rfl⟩), zpl_X11, zpl_X11_ok, zi_chk_ok (by decide +kernel)⟩
theorem zg_105 : zi_rg zi_recs zi_nps zr_105 := ⟨⟨(zi_tb_of (List.mem_of_getElem? (i := 623) (by decide +kernel)) rfl), (zi_tb_of (List.mem_of_getElem? (i := 26) (by decide +kernel)) rfl), by decide, by decide, by decide +kernel, by decide⟩, by decide +kernel, by decide, Or.inr (Or.inl ⟨rfl, rfl⟩), zpl_X11, zpl_X11_ok, zi_chk_ok (by decide +kernel)⟩
theorem zg_106 : zi_rg zi_recs zi_nps zr_106 := ⟨⟨(zi_tb_of (List.mem_of_getElem? (i := 680) (by decide +kernel)) rfl), (zi_tb_of (List.mem_of_getElem? (i := 26) (by decide +kernel)) rfl), by decide, by decide, by decide +kernel, by decide⟩, by decide +kernel, by decide, Or.inr (Or.inl ⟨rfl, rfl⟩), zpl_X11, zpl_X11_ok, zi_chk_ok (by decide +kernel)⟩
theorem zg_107 : zi_rg zi_recs zi_nps zr_107 := ⟨⟨(zi_tb_of (List.mem_of_getElem? (i := 658) (by decide +kernel)) rfl), (zi_tb_of (List.mem_of_getElem? (i := 26) (by decide +kernel)) rfl), by decide, by decide, by decide +kernel, by decide⟩, by decide +kernel, by decide, Or.inr (Or.inl ⟨rfl, rfl⟩), zpl_X11, zpl_X11_ok, zi_chk_ok (by decide +kernel)⟩
theorem zg_108 : zi_rg zi_recs zi_nps zr_108 := ⟨⟨(zi_tb_of (List.mem_of_getElem? (i := 688) (by decide +kernel)) rfl), (zi_tb_of (List.mem_of_getElem? (i := 26) (by decide +kernel)) rfl), by decide, by decide, by decide +kernel, by decide⟩, by decide +kernel, by decide, Or.inr (Or.inl ⟨rfl, rfl⟩), zpl_X11, zpl_X11_ok, zi_chk_ok (by decide +kernel)⟩
theorem zg_109 : zi_rg zi_recs zi_nps zr_109 := ⟨⟨(zi_tb_of (List.mem_of_getElem? (i := 708) (by decide +kernel)) rfl), (zi_tb_of (List.mem_of_getElem? (i := 26) (by decide +kernel)) rfl), by decide, by decide, by decide +kernel, by decide⟩, by decide +kernel, by decide, Or.inr (Or.inl ⟨rfl, rfl⟩), zpl_X11, zpl_X11_ok, zi_chk_ok (by decide +kernel)⟩
theorem zg_110 : zi_rg zi_recs zi_nps zr_110 := ⟨⟨(zi_tb_of (List.mem_of_getElem? (i := 697) (by decide +kernel)) rfl), (zi_tb_of (List.mem_of_getElem? (i := 26) (by decide +kernel)) rfl), by decide, by decide, by decide +kernel, by decide⟩, by decide +kernel, by decide, Or.inr (Or.inl ⟨rfl, rfl⟩), zpl_X11, zpl_X11_ok, zi_chk_ok (by decide +kernel)⟩
theorem zg_111 : zi_rg zi_recs zi_nps zr_111 := ⟨⟨(zi_tb_of (List.mem_of_getElem? (i := 824) (by decide +kernel)) rfl), (zi_tb_of (List.mem_of_getElem? (i := 26) (by decide +kernel)) rfl), by decide, by decide, by decide +kernel, by decide⟩, by decide +kernel, by decide, Or.inr (Or.inl ⟨rfl, rfl⟩), zpl_X11, zpl_X11_ok, zi_chk_ok (by decide +kernel)⟩
theorem zg_112 : zi_rg zi_recs zi_nps zr_112 := ⟨⟨(zi_tb_of (List.mem_of_getElem? (i := 841) (by decide +kernel)) rfl), (zi_tb_of (List.mem_of_getElem? (i := 26) (by decide +kernel)) rfl), by decide, by decide, by decide +kernel, by decide⟩, by decide +kernel, by decide, Or.inr (Or.inl ⟨rfl, rfl⟩), zpl_X11, zpl_X11_ok, zi_chk_ok (by decide +kernel)⟩
theorem zg_113 : zi_rg zi_recs zi_nps zr_113 := ⟨⟨(zi_tb_of (List.mem_of_getElem? (i := 877) (by decide +kernel)) rfl), (zi_tb_of (List.mem_of_getElem? (i := 26) (by decide +kernel)) rfl), by decide, by decide, by decide +kernel, by decide⟩, by decide +kernel, by decide, Or.inr (Or.inl ⟨rfl, rfl⟩), zpl_X11, zpl_X11_ok, zi_chk_ok (by decide +kernel)⟩
theorem zg_114 : zi_rg zi_recs zi_nps zr_114 := ⟨⟨(zi_tb_of (List.mem_of_getElem? (i := 726) (by decide +kernel)) rfl), (zi_tb_of (List.mem_of_getElem? (i := 26) (by decide +kernel)) rfl), by decide, by decide, by decide +kernel, by decide⟩, by decide +kernel, by decide, Or.inr (Or.inl ⟨rfl, rfl⟩), zpl_X11, zpl_X11_ok, zi_chk_ok (by decide +kernel)⟩
theorem zg_115 : zi_rg zi_recs zi_nps zr_115 := ⟨⟨(zi_tb_of (List.mem_of_getElem? (i := 773) (by decide +kernel)) rfl), (zi_tb_of (List.mem_of_getElem? (i := 26) (by decide +kernel)) rfl), by decide, by decide, by decide +kernel, by decide⟩, by decide +kernel, by decide, Or.inr (Or.inl ⟨rfl, rfl⟩), zpl_X11, zpl_X11_ok, zi_chk_ok (by decide +kernel)⟩
theorem zg_116 : zi_rg zi_recs zi_nps zr_116 := ⟨⟨(zi_tb_of (List.mem_of_getElem? (i := 808) (by decide +kernel)) rfl), (zi_tb_of (List.mem_of_getElem? (i := 26) (by decide +kernel)) rfl), by decide, by decide, by decide +kernel, by decide⟩, by decide +kernel, by decide, Or.inr (Or.inl ⟨rfl, rfl⟩), zpl_X11, zpl_X11_ok, zi_chk_ok (by decide +kernel)⟩
theorem zg_117 : zi_rg zi_recs zi_nps zr_117 := ⟨⟨(zi_tb_of (List.mem_of_getElem? (i := 894) (by decide +kernel)) rfl), (zi_tb_of (List.mem_of_getElem? (i := 26) (by decide +kernel)) rfl), by decide, by decide, by decide +kernel, by decide⟩, by decide +kernel, by decide, Or.inr (Or.inl ⟨rfl, rfl⟩), zpl_X11, zpl_X11_ok, zi_chk_ok (by decide +kernel)⟩
theorem zg_118 : zi_rg zi_recs zi_nps zr_118 := ⟨⟨(zi_tb_of (List.mem_of_getElem? (i := 906) (by decide +kernel)) rfl), (zi_tb_of (List.mem_of_getElem? (i := 26) (by decide +kernel)) rfl), by decide, by decide, by decide +kernel, by decide⟩, by decide +kernel, by decide, Or.inr (Or.inl ⟨rfl, rfl⟩), zpl_X11, zpl_X11_ok, zi_chk_ok (by decide +kernel)⟩
theorem zg_119 : zi_rg zi_recs zi_nps zr_119 := ⟨⟨(zi_tb_of (List.mem_of_getElem? (i := 863) (by decide +kernel)) rfl), (zi_tb_of (List.mem_of_getElem? (i := 26) (by decide +kernel)) rfl), by decide, by decide, by decide +kernel, by decide⟩, by decide +kernel, by decide, Or.inr (Or.inl ⟨rfl, rfl⟩), zpl_X11, zpl_X11_ok, zi_chk_ok (by decide +kernel)⟩
theorem zg_120 : zi_rg zi_recs zi_nps zr_120 := ⟨⟨(zi_tb_of (List.mem_of_getElem? (i := 869) (by decide +kernel)) rfl), (zi_tb_of (List.mem_of_getElem? (i := 26) (by decide +kernel)) rfl), by decide, by decide, by decide +kernel, by decide⟩, by decide +kernel, by decide, Or.inr (Or.inl ⟨rfl, rfl⟩), zpl_X11, zpl_X11_ok, zi_chk_ok (by decide +kernel)⟩
theorem zg_121 : zi_rg zi_recs zi_nps zr_121 := ⟨⟨(zi_tb_of (List.mem_of_getElem? (i := 852) (by decide +kernel)) rfl), (zi_tb_of (List.mem_of_getElem? (i := 26) (by decide +kernel)) rfl), by decide, by decide, by decide +kernel, by decide⟩, by decide +kernel, by decide, Or.inr (Or.inl ⟨rfl, rfl⟩), zpl_X11, zpl_X11_ok, zi_chk_ok (by decide +kernel)⟩
theorem zg_122 : zi_rg zi_recs zi_nps zr_122 := ⟨⟨(zi_tb_of (List.mem_of_getElem? (i := 917) (by decide +kernel)) rfl), (zi_tb_of (List.mem_of_getElem? (i := 26) (by decide +kernel)) rfl), by decide, by decide, by decide +kernel, by decide⟩, by decide +kernel, by decide, Or.inr (Or.inl ⟨rfl, rfl⟩), zpl_X11, zpl_X11_ok, zi_chk_ok (by decide +kernel)⟩
theorem zg_123 : zi_rg zi_recs zi_nps zr_123 := ⟨⟨(zi_tb_of (List.mem_of_getElem? (i := 926) (by decide +kernel)) rfl), (zi_tb_of (List.mem_of_getElem? (i := 26) (by decide +kernel)) rfl), by decide, by decide, by decide +kernel, by decide⟩, by decide +kernel, by decide, Or.inr (Or.inl ⟨rfl, rfl⟩), zpl_X11, zpl_X11_ok, zi_chk_ok (by decide +kernel)⟩
theorem zg_124 : zi_rg zi_recs zi_nps zr_124 := ⟨⟨(zi_tb_of (List.mem_of_getElem? (i := 777) (by decide +kernel)) rfl), (zi_tb_of (List.mem_of_getElem? (i := 26) (by decide +kernel)) rfl), by decide, by decide, by decide +kernel, by decide⟩, by decide +kernel, by decide, Or.inr (Or.inl ⟨rfl, rfl⟩), zpl_X11, zpl_X11_ok, zi_chk_ok (by decide +kernel)⟩
theorem zg_125 : zi_rg zi_recs zi_nps zr_125 := ⟨⟨(zi_tb_of (List.mem_of_getElem? (i := 294) (by decide +kernel)) rfl), (zi_tb_of (List.mem_of_getElem? (i := 26) (by decide +kernel)) rfl), by decide, by decide, by decide +kernel, by decide⟩, by decide +kernel, by decide, Or.inl ⟨rfl, rfl⟩, zpl_X11, zpl_X11_ok, zi_chk_ok (by decide +kernel)⟩
theorem zg_126 : zi_rg zi_recs zi_nps zr_126 := ⟨⟨(zi_tb_of (List.mem_of_getElem? (i := 768) (by decide +kernel)) rfl), (zi_tb_of (List.mem_of_getElem? (i := 26) (by decide +kernel)) rfl), by decide, by decide, by decide +kernel, by decide⟩, by decide +kernel, by decide, Or.inl ⟨rfl, rfl⟩, zpl_X11, zpl_X11_ok, zi_chk_ok (by decide +kernel)⟩
theorem zg_127 : zi_rg zi_recs zi_nps zr_127 := ⟨⟨(zi_tb_of (List.mem_of_getElem? (i := 393) (by decide +kernel)) rfl), (zi_tb_of (List.mem_of_getElem? (i := 26) (by decide +kernel)) rfl), by decide, by decide, by decide +kernel, by decide⟩, by decide +kernel, by decide, Or.inl ⟨rfl, rfl⟩, zpl_X11, zpl_X11_ok, zi_chk_ok (by decide +kernel)⟩
theorem zg_128 : zi_rg zi_recs zi_nps zr_128 := ⟨⟨(zi_tb_of (List.mem_of_getElem? (i := 406) (by decide +kernel)) rfl), (zi_tb_of (List.mem_of_getElem? (i := 26) (by decide +kernel)) rfl), by decide, by decide, by decide +kernel, by decide⟩, by decide +kernel, by decide, Or.inl ⟨rfl, rfl⟩, zpl_X11, zpl_X11_ok, zi_chk_ok (by decide +kernel)⟩
theorem zg_129 : zi_rg zi_recs zi_nps zr_129 := ⟨⟨(zi_tb_of (List.mem_of_getElem? (i := 701) (by decide +kernel)) rfl), (zi_tb_of (List.mem_of_getElem? (i := 26) (by decide +kernel)) rfl), by decide, by decide, by decide +kernel, by decide⟩, by decide +kernel, by decide, Or.inr (Or.inl ⟨rfl, rfl⟩), zpl_X11, zpl_X11_ok, zi_chk_ok (by decide +kernel)⟩
theorem zg_130 : zi_rg zi_recs zi_nps zr_130 := ⟨⟨(zi_tb_of (List.mem_of_getElem? (i := 410) (by decide +kernel)) rfl), (zi_tb_of (List.mem_of_getElem? (i := 26) (by decide +kernel)) rfl), by decide, by decide, by decide +kernel, by decide⟩, by decide +kernel, by decide, Or.inr (Or.inl ⟨rfl, rfl⟩), zpl_X11, zpl_X11_ok, zi_chk_ok (by decide +kernel)⟩
theorem zg_131 : zi_rg zi_recs zi_nps zr_131 := ⟨⟨(zi_tb_of (List.mem_of_getElem? (i := 616) (by decide +kernel)) rfl), (zi_tb_of (List.mem_of_getElem? (i := 26) (by decide +kernel)) rfl), by decide, by decide, by decide +kernel, by decide⟩, by decide +kernel, by decide, Or.inr (Or.inl ⟨rfl, rfl⟩), zpl_X11, zpl_X11_ok, zi_chk_ok (by decide +kernel)⟩
theorem zg_132 : zi_rg zi_recs zi_nps zr_132 := ⟨⟨(zi_tb_of (List.mem_of_getElem? (i := 566) (by decide +kernel)) rfl), (zi_tb_of (List.mem_of_getElem? (i := 26) (by decide +kernel)) rfl), by decide, by decide, by decide +kernel, by decide⟩, by decide +kernel, by decide, Or.inl ⟨rfl, rfl⟩, zpl_X11, zpl_X11_ok, zi_chk_ok (by decide +kernel)⟩
theorem zg_133 : zi_rg zi_recs zi_nps zr_133 := ⟨⟨(zi_tb_of (List.mem_of_getElem? (i := 570) (by decide +kernel)) rfl), (zi_tb_of (List.mem_of_getElem? (i := 26) (by decide +kernel)) rfl), by decide, by decide, by decide +kernel, by decide⟩, by decide +kernel, by decide, Or.inr (Or.inr (Or.inr ⟨rfl, _, rfl⟩)), zpl_X11, zpl_X11_ok, zi_chk_ok (by decide +kernel)⟩
theorem zg_134 : zi_rg zi_recs zi_nps zr_134 := ⟨⟨(zi_tb_of (List.mem_of_getElem? (i := 338) (by decide +kernel)) rfl), (zi_tb_of (List.mem_of_getElem? (i := 26) (by decide +kernel)) rfl), by decide, by decide, by decide +kernel, by decide⟩, by decide +kernel, by decide, Or.inr (Or.inr (Or.inl ⟨rfl, rfl⟩)), zpl_X11, zpl_X11_ok, zi_chk_ok (by decide +kernel)⟩
theorem zg_135 : zi_rg zi_recs zi_nps zr_135 := ⟨⟨(zi_tb_of (List.mem_of_getElem? (i := 324) (by decide +kernel)) rfl), (zi_tb_of (List.mem_of_getElem? (i := 26) (by decide +kernel)) rfl), by decide, by decide, by decide +kernel, by decide⟩, by decide +kernel, by decide, Or.inr (Or.inr (Or.inl ⟨rfl, rfl⟩)), zpl_X11, zpl_X11_ok, zi_chk_ok (by decide +kernel)⟩
theorem zg_136 : zi_rg zi_recs zi_nps zr_136 := ⟨⟨(zi_tb_of (List.mem_of_getElem? (i := 552) (by decide +kernel)) rfl), (zi_tb_of (List.mem_of_getElem? (i := 26) (by decide +kernel)) rfl), by decide, by decide, by decide +kernel, by decide⟩, by decide +kernel, by decide, Or.inr (Or.inr (Or.inl ⟨rfl, rfl⟩)), zpl_X11, zpl_X11_ok, zi_chk_ok (by decide +kernel)⟩
theorem zg_137 : zi_rg zi_recs zi_nps zr_137 := ⟨⟨(zi_tb_of (List.mem_of_getElem? (i := 341) (by decide +kernel)) rfl), (zi_tb_of (List.mem_of_getElem? (i := 26) (by decide +kernel)) rfl), by decide, by decide, by decide +kernel, by decide⟩, by decide +kernel, by decide, Or.inr (Or.inr (Or.inl ⟨rfl, rfl⟩)), zpl_X11, zpl_X11_ok, zi_chk_ok (by decide +kernel)⟩
theorem zg_138 : zi_rg zi_recs zi_nps zr_138 := ⟨⟨(zi_tb_of (List.mem_of_getElem? (i := 445) (by decide +kernel)) rfl), (zi_tb_of (List.mem_of_getElem? (i := 25) (by decide +kernel)) rfl), by decide, by decide, by decide +kernel, by decide⟩, by decide +kernel, by decide, Or.inr (Or.inl ⟨rfl, rfl⟩), zpl_L, zpl_L_ok, zi_chk_ok (by decide +kernel)⟩
theorem zg_139 : zi_rg zi_recs zi_nps zr_139 := ⟨⟨(zi_tb_of (List.mem_of_getElem? (i := 449) (by decide +kernel)) rfl), (zi_tb_of (List.mem_of_getElem? (i := 25) (by decide +kernel)) rfl), by decide, by decide, by decide +kernel, by decide⟩, by decide +kernel, by decide, Or.inr (Or.inl ⟨rfl, rfl⟩), zpl_L, zpl_L_ok, zi_chk_ok (by decide +kernel)⟩
theorem zg_140 : zi_rg zi_recs zi_nps zr_140 := ⟨⟨(zi_tb_of (List.mem_of_getElem? (i := 465) (by decide +kernel)) rfl), (zi_tb_of (List.mem_of_getElem? (i := 25) (by decide +kernel)) rfl), by decide, by decide, by decide +kernel, by decide⟩, by decide +kernel, by decide, Or.inr (Or.inl ⟨rfl, rfl⟩), zpl_L, zpl_L_ok, zi_chk_ok (by decide +kernel)⟩
theorem zg_141 : zi_rg zi_recs zi_nps zr_141 := ⟨⟨(zi_tb_of (List.mem_of_getElem? (i := 468) (by decide +kernel)) rfl), (zi_tb_of (List.mem_of_getElem? (i := 25) (by decide +kernel)) rfl), by decide, by decide, by decide +kernel, by decide⟩, by decide +kernel, by decide, Or.inl ⟨rfl, rfl⟩, zpl_L, zpl_L_ok, zi_chk_ok (by decide +kernel)⟩
theorem zg_142 : zi_rg zi_recs zi_nps zr_142 := ⟨⟨(zi_tb_of (List.mem_of_getElem? (i := 476) (by decide +kernel)) rfl), (zi_tb_of (List.mem_of_getElem? (i := 25) (by decide +kernel)) rfl), by decide, by decide, by decide +kernel, by decide⟩, by decide +kernel, by decide, Or.inr (Or.inr (Or.inl ⟨rfl, rfl⟩)), zpl_L, zpl_L_ok, zi_chk_ok (by decide +kernel)⟩
theorem zg_143 : zi_rg zi_recs zi_nps zr_143 := ⟨⟨(zi_tb_of (List.mem_of_getElem? (i := 473) (by decide +kernel)) rfl), (zi_tb_of (List.mem_of_getElem? (i := 25) (by decide +kernel)) rfl), by decide, by decide, by decide +kernel, by decide⟩, by decide +kernel, by decide, Or.inr (Or.inr (Or.inl ⟨rfl, rfl⟩)), zpl_L, zpl_L_ok, zi_chk_ok (by decide +kernel)⟩
theorem zg_144 : zi_rg zi_recs zi_nps zr_144 := ⟨⟨(zi_tb_of (List.mem_of_getElem? (i := 479) (by decide +kernel)) rfl), (zi_tb_of (List.mem_of_getElem? (i := 25) (by decide +kernel)) rfl), by decide, by decide, by decide +kernel, by decide⟩, by decide +kernel, by decide, Or.inr (Or.inl ⟨rfl, rfl⟩), zpl_L, zpl_L_ok, zi_chk_ok (by decide +kernel)⟩
theorem zg_145 : zi_rg zi_recs zi_nps zr_145 := ⟨⟨(zi_tb_of (List.mem_of_getElem? (i := 453) (by decide +kernel)) rfl), (zi_tb_of (List.mem_of_getElem? (i := 25) (by decide +kernel)) rfl), by decide, by decide, by decide +kernel, by decide⟩, by decide +kernel, by decide, Or.inr (Or.inr (Or.inl ⟨rfl, rfl⟩)), zpl_L, zpl_L_ok, zi_chk_ok (by decide +kernel)⟩
theorem zg_146 : zi_rg zi_recs zi_nps zr_146 := ⟨⟨(zi_tb_of (List.mem_of_getElem? (i := 885) (by decide +kernel)) rfl), (zi_tb_of (List.mem_of_getElem? (i := 25) (by decide +kernel)) rfl), by decide, by decide, by decide +kernel, by decide⟩, by decide +kernel, by decide, Or.inr (Or.inl ⟨rfl, rfl⟩), zpl_L, zpl_L_ok, zi_chk_ok (by decide +kernel)⟩
theorem zg_147 : zi_rg zi_recs zi_nps zr_147 := ⟨⟨(zi_tb_of (List.mem_of_getElem? (i := 619) (by decide +kernel)) rfl), (zi_tb_of (List.mem_of_getElem? (i := 25) (by decide +kernel)) rfl), by decide, by decide, by decide +kernel, by decide⟩, by decide +kernel, by decide, Or.inr (Or.inr (Or.inl ⟨rfl, rfl⟩)), zpl_L, zpl_L_ok, zi_chk_ok (by decide +kernel)⟩
theorem zg_148 : zi_rg zi_recs zi_nps zr_148 := ⟨⟨(zi_tb_of (List.mem_of_getElem? (i := 704) (by decide +kernel)) rfl), (zi_tb_of (List.mem_of_getElem? (i := 25) (by decide +kernel)) rfl), by decide, by decide, by decide +kernel, by decide⟩, by decide +kernel, by decide, Or.inr (Or.inr (Or.inl ⟨rfl, rfl⟩)), zpl_L, zpl_L_ok, zi_chk_ok (by decide +kernel)⟩
theorem zg_149 : zi_rg zi_recs zi_nps zr_149 := ⟨⟨(zi_tb_of (List.mem_of_getElem? (i := 722) (by decide +kernel)) rfl), (zi_tb_of (List.mem_of_getElem? (i := 25) (by decide +kernel)) rfl), by decide, by decide, by decide +kernel, by decide⟩, by decide +kernel, by decide, Or.inr (Or.inr (Or.inl ⟨rfl, rfl⟩)), zpl_L, zpl_L_ok, zi_chk_ok (by decide +kernel)⟩
theorem zg_150 : zi_rg zi_recs zi_nps zr_150 := ⟨⟨(zi_tb_of (List.mem_of_getElem? (i := 882) (by decide +kernel)) rfl), (zi_tb_of (List.mem_of_getElem? (i := 25) (by decide +kernel)) rfl), by decide, by decide, by decide +kernel, by decide⟩, by decide +kernel, by decide, Or.inr (Or.inr (Or.inl ⟨rfl, rfl⟩)), zpl_L, zpl_L_ok, zi_chk_ok (by decide +kernel)⟩
theorem zg_151 : zi_rg zi_recs zi_nps zr_151 := ⟨⟨(zi_tb_of (List.mem_of_getElem? (i := 913) (by decide +kernel)) rfl), (zi_tb_of (List.mem_of_getElem? (i := 25) (by decide +kernel)) rfl), by decide, by decide, by decide +kernel, by decide⟩, by decide +kernel, by decide, Or.inr (Or.inr (Or.inl ⟨rfl, rfl⟩)), zpl_L, zpl_L_ok, zi_chk_ok (by decide +kernel)⟩
end
section
set_option maxRecDepth 100000 in
theorem zg_all : ∀ r ∈ zi_recs, zi_rg zi_recs zi_nps r := List.forall_mem_cons.mpr ⟨zg_0, List.forall_mem_cons.mpr ⟨zg_1, List.forall_mem_cons.mpr ⟨zg_2, List.forall_mem_cons.mpr ⟨zg_3, List.forall_mem_cons.mpr ⟨zg_4, List.forall_mem_cons.mpr ⟨zg_5, List.forall_mem_cons.mpr ⟨zg_6, List.forall_mem_cons.mpr ⟨zg_7, List.forall_mem_cons.mpr ⟨zg_8, List.forall_mem_cons.mpr ⟨zg_9, List.forall_mem_cons.mpr ⟨zg_10, List.forall_mem_cons.mpr ⟨zg_11, List.forall_mem_cons.mpr ⟨zg_12, List.forall_mem_cons.mpr ⟨zg_13, List.forall_mem_cons.mpr ⟨zg_14, List.forall_mem_cons.mpr ⟨zg_15, List.forall_mem_cons.mpr ⟨zg_16, List.forall_mem_cons.mpr ⟨zg_17, List.forall_mem_cons.mpr ⟨zg_18, List.forall_mem_cons.mpr ⟨zg_19, List.forall_mem_cons.mpr ⟨zg_20, List.forall_mem_cons.mpr ⟨zg_21, List.forall_mem_cons.mpr ⟨zg_22, List.forall_mem_cons.mpr ⟨zg_23, List.forall_mem_cons.mpr ⟨zg_24, List.forall_mem_cons.mpr ⟨zg_25, List.forall_mem_cons.mpr ⟨zg_26, List.forall_mem_cons.mpr ⟨zg_27, List.forall_mem_cons.mpr ⟨zg_28, List.forall_mem_cons.mpr ⟨zg_29, List.forall_mem_cons.mpr ⟨zg_30, List.forall_mem_cons.mpr ⟨zg_31, List.forall_mem_cons.mpr ⟨zg_32, List.forall_mem_cons.mpr ⟨zg_33, List.forall_mem_cons.mpr ⟨zg_34, List.forall_mem_cons.mpr ⟨zg_35, List.forall_mem_cons.mpr ⟨zg_36, List.forall_mem_cons.mpr ⟨zg_37, List.forall_mem_cons.mpr ⟨zg_38, List.forall_mem_cons.mpr ⟨zg_39, List.forall_mem_cons.mpr ⟨zg_40, List.forall_mem_cons.mpr ⟨zg_41, List.forall_mem_cons.mpr ⟨zg_42, List.forall_mem_cons.mpr ⟨zg_43, List.forall_mem_cons.mpr ⟨zg_44, List.forall_mem_cons.mpr ⟨zg_45, List.forall_mem_cons.mpr ⟨zg_46, List.forall_mem_cons.mpr ⟨zg_47, List.forall_mem_cons.mpr ⟨zg_48, List.forall_mem_cons.mpr ⟨zg_49, List.forall_mem_cons.mpr ⟨zg_50, List.forall_mem_cons.mpr ⟨zg_51, List.forall_mem_cons.mpr ⟨zg_52, List.forall_mem_cons.mpr ⟨zg_53, List.forall_mem_cons.mpr ⟨zg_54, List.forall_mem_cons.mpr ⟨zg_55, List.forall_mem_cons.mpr ⟨zg_56, List.forall_mem_cons.mpr ⟨zg_57, List.forall_mem_cons.mpr ⟨zg_58, List.forall_mem_cons.mpr ⟨zg_59, List.forall_mem_cons.mpr ⟨zg_60, List.forall_mem_cons.mpr ⟨zg_61, List.forall_mem_cons.mpr ⟨zg_62, List.forall_mem_cons.mpr ⟨zg_63, List.forall_mem_cons.mpr ⟨zg_64, List.forall_mem_cons.mpr ⟨zg_65, List.forall_mem_cons.mpr ⟨zg_66, List.forall_mem_cons.mpr ⟨zg_67, List.forall_mem_cons.mpr ⟨zg_68, List.forall_mem_cons.mpr ⟨zg_69, List.forall_mem_cons.mpr ⟨zg_70, List.forall_mem_cons.mpr ⟨zg_71, List.forall_mem_cons.mpr ⟨zg_72, List.forall_mem_cons.mpr ⟨zg_73, List.forall_mem_cons.mpr ⟨zg_74, List.forall_mem_cons.mpr ⟨zg_75, List.forall_mem_cons.mpr ⟨zg_76, List.forall_mem_cons.mpr ⟨zg_77, List.forall_mem_cons.mpr ⟨zg_78, List.forall_mem_cons.mpr ⟨zg_79, List.forall_mem_cons.mpr ⟨zg_80, List.forall_mem_cons.mpr ⟨zg_81, List.forall_mem_cons.mpr ⟨zg_82, List.forall_mem_cons.mpr ⟨zg_83, List.forall_mem_cons.mpr ⟨zg_84, List.forall_mem_cons.mpr ⟨zg_85, List.forall_mem_cons.mpr ⟨zg_86, List.forall_mem_cons.mpr ⟨zg_87, List.forall_mem_cons.mpr ⟨zg_88, List.forall_mem_cons.mpr ⟨zg_89, List.forall_mem_cons.mpr ⟨zg_90, List.forall_mem_cons.mpr ⟨zg_91, List.forall_mem_cons.mpr ⟨zg_92, List.forall_mem_cons.mpr ⟨zg_93, List.forall_mem_cons.mpr ⟨zg_94, List.forall_mem_cons.mpr ⟨zg_95, List.forall_mem_cons.mpr ⟨zg_96, List.forall_mem_cons.mpr ⟨zg_97, List.forall_mem_cons.mpr ⟨zg_98, List.forall_mem_cons.mpr ⟨zg_99, List.forall_mem_cons.mpr ⟨zg_100, List.forall_mem_cons.mpr ⟨zg_101, List.forall_mem_cons.mpr ⟨zg_102, List.forall_mem_cons.mpr ⟨zg_103, List.forall_mem_cons.mpr ⟨zg_104, List.forall_mem_cons.mpr ⟨zg_105, List.forall_mem_cons.mpr ⟨zg_106, List.forall_mem_cons.mpr ⟨zg_107, List.forall_mem_cons.mpr ⟨zg_108, List.forall_mem_cons.mpr ⟨zg_109, List.forall_mem_cons.mpr ⟨zg_110, List.forall_mem_cons.mpr ⟨zg_111, List.forall_mem_cons.mpr ⟨zg_112, List.forall_mem_cons.mpr ⟨zg_113, List.forall_mem_cons.mpr ⟨zg_114, List.forall_mem_cons.mpr ⟨zg_115, List.forall_mem_cons.mpr ⟨zg_116, List.forall_mem_cons.mpr ⟨zg_117, List.forall_mem_cons.mpr ⟨zg_118, List.forall_mem_cons.mpr ⟨zg_119, List.forall_mem_cons.mpr ⟨zg_120, List.forall_mem_cons.mpr ⟨zg_121, List.forall_mem_cons.mpr ⟨zg_122, List.forall_mem_cons.mpr ⟨zg_123, List.forall_mem_cons.mpr ⟨zg_124, List.forall_mem_cons.mpr ⟨zg_125, List.forall_mem_cons.mpr ⟨zg_126, List.forall_mem_cons.mpr ⟨zg_127, List.forall_mem_cons.mpr ⟨zg_128, List.forall_mem_cons.mpr ⟨zg_129, List.forall_mem_cons.mpr ⟨zg_130, List.forall_mem_cons.mpr ⟨zg_131, List.forall_mem_cons.mpr ⟨zg_132, List.forall_mem_cons.mpr ⟨zg_133, List.forall_mem_cons.mpr ⟨zg_134, List.forall_mem_cons.mpr ⟨zg_135, List.forall_mem_cons.mpr ⟨zg_136, List.forall_mem_cons.mpr ⟨zg_137, List.forall_mem_cons.mpr ⟨zg_138, List.forall_mem_cons.mpr ⟨zg_139, List.forall_mem_cons.mpr ⟨zg_140, List.forall_mem_cons.mpr ⟨zg_141, List.forall_mem_cons.mpr ⟨zg_142, List.forall_mem_cons.mpr ⟨zg_143, List.forall_mem_cons.mpr ⟨zg_144, List.forall_mem_cons.mpr ⟨zg_145, List.forall_mem_cons.mpr ⟨zg_146, List.forall_mem_cons.mpr ⟨zg_147, List.forall_mem_cons.mpr ⟨zg_148, List.forall_mem_cons.mpr ⟨zg_149, List.forall_mem_cons.mpr ⟨zg_150, List.forall_mem_cons.mpr ⟨zg_151,  fun e h => absurd h List.not_mem_nil⟩⟩⟩⟩⟩⟩⟩⟩⟩⟩⟩⟩⟩⟩⟩⟩⟩⟩⟩⟩⟩⟩⟩⟩⟩⟩⟩⟩⟩⟩⟩⟩⟩⟩⟩⟩⟩⟩⟩⟩⟩⟩⟩⟩⟩⟩⟩⟩⟩⟩⟩⟩⟩⟩⟩⟩⟩⟩⟩⟩⟩⟩⟩⟩⟩⟩⟩⟩⟩⟩⟩⟩⟩⟩⟩⟩⟩⟩⟩⟩⟩⟩⟩⟩⟩⟩⟩⟩⟩⟩⟩⟩⟩⟩⟩⟩⟩⟩⟩⟩⟩⟩⟩⟩⟩⟩⟩⟩⟩⟩⟩⟩⟩⟩⟩⟩⟩⟩⟩⟩⟩⟩⟩⟩⟩⟩⟩⟩⟩⟩⟩⟩⟩⟩⟩⟩⟩⟩⟩⟩⟩⟩⟩⟩⟩⟩⟩⟩⟩⟩⟩⟩
end
section
/-! stretches of code as plain functions -/
/-- the methods, called with d levels of room -/
def zG (d : Nat) : Nat → List zV → zM → zR := zi_G (zi_tab zi_recs) d
theorem zG_eq {d j : Nat} {vs : List zV} {σ : zM} (t : zT) (ht : zi_tab zi_recs j = t) (hb : Nat.ble 1000 j = false) (hl : Nat.ble (zi_args vs).length t.2.2.1 = true) : zG (d + 1) j vs σ = zi_fr t (zG d) (zi_run t (zG d) 19999) 600 0 (zi_loc vs t.2.2.1) [] σ := by
  subst ht
  show (bif Nat.ble 1000 j then _ else bif Nat.ble (zi_args vs).length (zi_tab zi_recs j).2.2.1 then _ else _) = _
  rw [hb, hl]
  exact zi_run_succ (n := 19999)
-- FoldedRows$Folds.<init>()V
set_option maxRecDepth 20000 in
theorem ze_0_0 {G : Nat → List zV → zM → zR} {K : Nat → zL → List zV → zM → zR} {x0 : Int} {σ : zM} : zi_fr zt_0 G K 600 0 [some (.inr (.inr x0))] [] σ = (if ((σ.1 x0).1 : Int) = 0 then (G 1000 [.inr (.inr x0)] σ).bind fun q1 => if (q1.2.1 x0).1 = 0 then let s2 : zM := zi_wr q1.2 x0 0 0; if (0 : Int) ≤ 8 ∧ (8 : Int) ≤ 100000 then let s3 : zM := zi_new s2 12 8 (Int.toNat 8); if (s3.1 x0).1 = 0 then let s4 : zM := zi_wq s3 x0 1 s2.2.2.2.1; if (0 : Int) ≤ 8 ∧ (8 : Int) ≤ 100000 then let s5 : zM := zi_new s4 12 8 (Int.toNat 8); if (s5.1 x0).1 = 0 then let s6 : zM := zi_wq s5 x0 2 s4.2.2.2.1; if (0 : Int) ≤ 8 ∧ (8 : Int) ≤ 100000 then let s7 : zM := zi_new s6 12 8 (Int.toNat 8); if (s7.1 x0).1 = 0 then let s8 : zM := zi_wq s7 x0 3 s6.2.2.2.1; some (0, s8) else none else none else none else none else none else none else none else none) := rfl
theorem zm_0 {d : Nat} {x0 : Int} {σ : zM} : zG (d + 1) 0 [.inr (.inr x0)] σ = ((fun (G : Nat → List zV → zM → zR) (K : Nat → zL → List zV → zM → zR) => if ((σ.1 x0).1 : Int) = 0 then (G 1000 [.inr (.inr x0)] σ).bind fun q1 => if (q1.2.1 x0).1 = 0 then let s2 : zM := zi_wr q1.2 x0 0 0; if (0 : Int) ≤ 8 ∧ (8 : Int) ≤ 100000 then let s3 : zM := zi_new s2 12 8 (Int.toNat 8); if (s3.1 x0).1 = 0 then let s4 : zM := zi_wq s3 x0 1 s2.2.2.2.1; if (0 : Int) ≤ 8 ∧ (8 : Int) ≤ 100000 then let s5 : zM := zi_new s4 12 8 (Int.toNat 8); if (s5.1 x0).1 = 0 then let s6 : zM := zi_wq s5 x0 2 s4.2.2.2.1; if (0 : Int) ≤ 8 ∧ (8 : Int) ≤ 100000 then let s7 : zM := zi_new s6 12 8 (Int.toNat 8); if (s7.1 x0).1 = 0 then let s8 : zM := zi_wq s7 x0 3 s6.2.2.2.1; some (0, s8) else none else none else none else none else none else none else none else none) (zG d) (zi_run zt_0 (zG d) 19999)) := (zG_eq zt_0 rfl rfl rfl).trans ze_0_0
-- FoldedRows$Folds.has(I)Z
set_option maxRecDepth 20000 in
theorem ze_1_0 {G : Nat → List zV → zM → zR} {K : Nat → zL → List zV → zM → zR} {x0 x1 : Int} {σ : zM} : zi_fr zt_1 G K 600 0 [some (.inr (.inr x0)), some (.inl x1)] [] σ = (if (x1 : Int) < 0 then (if (0 : Int) = 0 ∨ (0 : Int) = 1 then some (0, σ) else none) else (if (σ.1 x0).1 = 0 then if (x1 : Int) < (σ.2.1 x0 0) then (if (1 : Int) = 0 ∨ (1 : Int) = 1 then some (1, σ) else none) else (if (0 : Int) = 0 ∨ (0 : Int) = 1 then some (0, σ) else none) else none)) := rfl
theorem zm_1 {d : Nat} {x0 x1 : Int} {σ : zM} : zG (d + 1) 1 [.inr (.inr x0), .inl x1] σ = ((fun (G : Nat → List zV → zM → zR) (K : Nat → zL → List zV → zM → zR) => if (x1 : Int) < 0 then (if (0 : Int) = 0 ∨ (0 : Int) = 1 then some (0, σ) else none) else (if (σ.1 x0).1 = 0 then if (x1 : Int) < (σ.2.1 x0 0) then (if (1 : Int) = 0 ∨ (1 : Int) = 1 then some (1, σ) else none) else (if (0 : Int) = 0 ∨ (0 : Int) = 1 then some (0, σ) else none) else none)) (zG d) (zi_run zt_1 (zG d) 19999)) := (zG_eq zt_1 rfl rfl rfl).trans ze_1_0
-- FoldedRows$Folds.firstOf(I)I
set_option maxRecDepth 20000 in
theorem ze_2_0 {G : Nat → List zV → zM → zR} {K : Nat → zL → List zV → zM → zR} {x0 x1 : Int} {σ : zM} : zi_fr zt_2 G K 600 0 [some (.inr (.inr x0)), some (.inl x1)] [] σ = (if (σ.1 x0).1 = 0 then (G 72 [.inr (.inr (σ.2.2.1 x0 1)), .inl x1] σ).bind fun q1 => some (q1.1, q1.2) else none) := rfl
theorem zm_2 {d : Nat} {x0 x1 : Int} {σ : zM} : zG (d + 1) 2 [.inr (.inr x0), .inl x1] σ = ((fun (G : Nat → List zV → zM → zR) (K : Nat → zL → List zV → zM → zR) => if (σ.1 x0).1 = 0 then (G 72 [.inr (.inr (σ.2.2.1 x0 1)), .inl x1] σ).bind fun q1 => some (q1.1, q1.2) else none) (zG d) (zi_run zt_2 (zG d) 19999)) := (zG_eq zt_2 rfl rfl rfl).trans ze_2_0
-- FoldedRows$Folds.lastOf(I)I
set_option maxRecDepth 20000 in
theorem ze_3_0 {G : Nat → List zV → zM → zR} {K : Nat → zL → List zV → zM → zR} {x0 x1 : Int} {σ : zM} : zi_fr zt_3 G K 600 0 [some (.inr (.inr x0)), some (.inl x1)] [] σ = (if (σ.1 x0).1 = 0 then (G 72 [.inr (.inr (σ.2.2.1 x0 2)), .inl x1] σ).bind fun q1 => some (q1.1, q1.2) else none) := rfl
theorem zm_3 {d : Nat} {x0 x1 : Int} {σ : zM} : zG (d + 1) 3 [.inr (.inr x0), .inl x1] σ = ((fun (G : Nat → List zV → zM → zR) (K : Nat → zL → List zV → zM → zR) => if (σ.1 x0).1 = 0 then (G 72 [.inr (.inr (σ.2.2.1 x0 2)), .inl x1] σ).bind fun q1 => some (q1.1, q1.2) else none) (zG d) (zi_run zt_3 (zG d) 19999)) := (zG_eq zt_3 rfl rfl rfl).trans ze_3_0
-- FoldedRows$Folds.isShut(I)Z
set_option maxRecDepth 20000 in
theorem ze_4_0 {G : Nat → List zV → zM → zR} {K : Nat → zL → List zV → zM → zR} {x0 x1 : Int} {σ : zM} : zi_fr zt_4 G K 600 0 [some (.inr (.inr x0)), some (.inl x1)] [] σ = (if (σ.1 x0).1 = 0 then (G 72 [.inr (.inr (σ.2.2.1 x0 3)), .inl x1] σ).bind fun q1 => if (q1.1 : Int) = 1 then (if (1 : Int) = 0 ∨ (1 : Int) = 1 then some (1, q1.2) else none) else (if (0 : Int) = 0 ∨ (0 : Int) = 1 then some (0, q1.2) else none) else none) := rfl
theorem zm_4 {d : Nat} {x0 x1 : Int} {σ : zM} : zG (d + 1) 4 [.inr (.inr x0), .inl x1] σ = ((fun (G : Nat → List zV → zM → zR) (K : Nat → zL → List zV → zM → zR) => if (σ.1 x0).1 = 0 then (G 72 [.inr (.inr (σ.2.2.1 x0 3)), .inl x1] σ).bind fun q1 => if (q1.1 : Int) = 1 then (if (1 : Int) = 0 ∨ (1 : Int) = 1 then some (1, q1.2) else none) else (if (0 : Int) = 0 ∨ (0 : Int) = 1 then some (0, q1.2) else none) else none) (zG d) (zi_run zt_4 (zG d) 19999)) := (zG_eq zt_4 rfl rfl rfl).trans ze_4_0
-- FoldedRows$Folds.setShut(II)V
set_option maxRecDepth 20000 in
theorem ze_5_0 {G : Nat → List zV → zM → zR} {K : Nat → zL → List zV → zM → zR} {x0 x1 x2 : Int} {σ : zM} : zi_fr zt_5 G K 600 0 [some (.inr (.inr x0)), some (.inl x1), some (.inl x2)] [] σ = (if (σ.1 x0).1 = 0 then (G 73 [.inr (.inr (σ.2.2.1 x0 3)), .inl x1, .inl x2] σ).bind fun q1 => some (0, q1.2) else none) := rfl
theorem zm_5 {d : Nat} {x0 x1 x2 : Int} {σ : zM} : zG (d + 1) 5 [.inr (.inr x0), .inl x1, .inl x2] σ = ((fun (G : Nat → List zV → zM → zR) (K : Nat → zL → List zV → zM → zR) => if (σ.1 x0).1 = 0 then (G 73 [.inr (.inr (σ.2.2.1 x0 3)), .inl x1, .inl x2] σ).bind fun q1 => some (0, q1.2) else none) (zG d) (zi_run zt_5 (zG d) 19999)) := (zG_eq zt_5 rfl rfl rfl).trans ze_5_0
-- FoldedRows$Folds.shutCount()I
set_option maxRecDepth 20000 in
theorem ze_6_0 {G : Nat → List zV → zM → zR} {K : Nat → zL → List zV → zM → zR} {x0 : Int} {σ : zM} : zi_fr zt_6 G K 600 0 [some (.inr (.inr x0))] [] σ = (if (σ.1 x0).1 = 0 then if (σ.1 x0).1 = 0 then (G 75 [.inr (.inr (σ.2.2.1 x0 3)), .inl (σ.2.1 x0 0)] σ).bind fun q1 => some (q1.1, q1.2) else none else none) := rfl
theorem zm_6 {d : Nat} {x0 : Int} {σ : zM} : zG (d + 1) 6 [.inr (.inr x0)] σ = ((fun (G : Nat → List zV → zM → zR) (K : Nat → zL → List zV → zM → zR) => if (σ.1 x0).1 = 0 then if (σ.1 x0).1 = 0 then (G 75 [.inr (.inr (σ.2.2.1 x0 3)), .inl (σ.2.1 x0 0)] σ).bind fun q1 => some (q1.1, q1.2) else none else none) (zG d) (zi_run zt_6 (zG d) 19999)) := (zG_eq zt_6 rfl rfl rfl).trans ze_6_0
-- FoldedRows$Folds.depthOf(I)I
set_option maxRecDepth 20000 in
theorem ze_7_0 {G : Nat → List zV → zM → zR} {K : Nat → zL → List zV → zM → zR} {x0 x1 : Int} {σ : zM} : zi_fr zt_7 G K 600 0 [some (.inr (.inr x0)), some (.inl x1), none, none] [] σ = (K 4 [some (.inr (.inr x0)), some (.inl x1), some (.inl 0), some (.inl 0)] [] σ) := rfl
theorem zm_7 {d : Nat} {x0 x1 : Int} {σ : zM} : zG (d + 1) 7 [.inr (.inr x0), .inl x1] σ = ((fun (G : Nat → List zV → zM → zR) (K : Nat → zL → List zV → zM → zR) => K 4 [some (.inr (.inr x0)), some (.inl x1), some (.inl 0), some (.inl 0)] [] σ) (zG d) (zi_run zt_7 (zG d) 19999)) := (zG_eq zt_7 rfl rfl rfl).trans ze_7_0
set_option maxRecDepth 20000 in
theorem ze_7_4 {G : Nat → List zV → zM → zR} {K : Nat → zL → List zV → zM → zR} {x0 x1 x2 x3 : Int} {σ : zM} : zi_fr zt_7 G K 600 4 [some (.inr (.inr x0)), some (.inl x1), some (.inl x2), some (.inl x3)] [] σ = (if (σ.1 x0).1 = 0 then if (x3 : Int) < (σ.2.1 x0 0) then (if (x3 : Int) = x1 then (K 4 [some (.inr (.inr x0)), some (.inl x1), some (.inl x2), some (.inl (zi_w (x3 + 1)))] [] σ) else (if ((σ.1 x0).1 : Int) = 0 then (G 2 [.inr (.inr x0), .inl x3] σ).bind fun q1 => if ((q1.2.1 x0).1 : Int) = 0 then (G 2 [.inr (.inr x0), .inl x1] q1.2).bind fun q2 => if (q2.1 : Int) < q1.1 then (K 4 [some (.inr (.inr x0)), some (.inl x1), some (.inl x2), some (.inl (zi_w (x3 + 1)))] [] q2.2) else (if ((q2.2.1 x0).1 : Int) = 0 then (G 3 [.inr (.inr x0), .inl x1] q2.2).bind fun q3 => if ((q3.2.1 x0).1 : Int) = 0 then (G 3 [.inr (.inr x0), .inl x3] q3.2).bind fun q4 => if (q4.1 : Int) < q3.1 then (K 4 [some (.inr (.inr x0)), some (.inl x1), some (.inl x2), some (.inl (zi_w (x3 + 1)))] [] q4.2) else (K 4 [some (.inr (.inr x0)), some (.inl x1), some (.inl (zi_w (x2 + 1))), some (.inl (zi_w (x3 + 1)))] [] q4.2) else none else none) else none else none)) else (some (x2, σ)) else none) := rfl
theorem zk_7_4 {G : Nat → List zV → zM → zR} {n : Nat} {x0 x1 x2 x3 : Int} {σ : zM} : zi_run zt_7 G (n + 1) 4 [some (.inr (.inr x0)), some (.inl x1), some (.inl x2), some (.inl x3)] [] σ = ((fun (K : Nat → zL → List zV → zM → zR) => if (σ.1 x0).1 = 0 then if (x3 : Int) < (σ.2.1 x0 0) then (if (x3 : Int) = x1 then (K 4 [some (.inr (.inr x0)), some (.inl x1), some (.inl x2), some (.inl (zi_w (x3 + 1)))] [] σ) else (if ((σ.1 x0).1 : Int) = 0 then (G 2 [.inr (.inr x0), .inl x3] σ).bind fun q1 => if ((q1.2.1 x0).1 : Int) = 0 then (G 2 [.inr (.inr x0), .inl x1] q1.2).bind fun q2 => if (q2.1 : Int) < q1.1 then (K 4 [some (.inr (.inr x0)), some (.inl x1), some (.inl x2), some (.inl (zi_w (x3 + 1)))] [] q2.2) else (if ((q2.2.1 x0).1 : Int) = 0 then (G 3 [.inr (.inr x0), .inl x1] q2.2).bind fun q3 => if ((q3.2.1 x0).1 : Int) = 0 then (G 3 [.inr (.inr x0), .inl x3] q3.2).bind fun q4 => if (q4.1 : Int) < q3.1 then (K 4 [some (.inr (.inr x0)), some (.inl x1), some (.inl x2), some (.inl (zi_w (x3 + 1)))] [] q4.2) else (K 4 [some (.inr (.inr x0)), some (.inl x1), some (.inl (zi_w (x2 + 1))), some (.inl (zi_w (x3 + 1)))] [] q4.2) else none else none) else none else none)) else (some (x2, σ)) else none) (zi_run zt_7 G n)) := zi_run_succ.trans ze_7_4
-- FoldedRows$Folds.hides(I)Z
set_option maxRecDepth 20000 in
theorem ze_8_0 {G : Nat → List zV → zM → zR} {K : Nat → zL → List zV → zM → zR} {x0 x1 : Int} {σ : zM} : zi_fr zt_8 G K 600 0 [some (.inr (.inr x0)), some (.inl x1), none] [] σ = (K 2 [some (.inr (.inr x0)), some (.inl x1), some (.inl 0)] [] σ) := rfl
theorem zm_8 {d : Nat} {x0 x1 : Int} {σ : zM} : zG (d + 1) 8 [.inr (.inr x0), .inl x1] σ = ((fun (G : Nat → List zV → zM → zR) (K : Nat → zL → List zV → zM → zR) => K 2 [some (.inr (.inr x0)), some (.inl x1), some (.inl 0)] [] σ) (zG d) (zi_run zt_8 (zG d) 19999)) := (zG_eq zt_8 rfl rfl rfl).trans ze_8_0
set_option maxRecDepth 20000 in
theorem ze_8_2 {G : Nat → List zV → zM → zR} {K : Nat → zL → List zV → zM → zR} {x0 x1 x2 : Int} {σ : zM} : zi_fr zt_8 G K 600 2 [some (.inr (.inr x0)), some (.inl x1), some (.inl x2)] [] σ = (if (σ.1 x0).1 = 0 then if (x2 : Int) < (σ.2.1 x0 0) then (if ((σ.1 x0).1 : Int) = 0 then (G 4 [.inr (.inr x0), .inl x2] σ).bind fun q1 => if (q1.1 : Int) = 0 then (K 2 [some (.inr (.inr x0)), some (.inl x1), some (.inl (zi_w (x2 + 1)))] [] q1.2) else (if ((q1.2.1 x0).1 : Int) = 0 then (G 2 [.inr (.inr x0), .inl x2] q1.2).bind fun q2 => if (q2.1 : Int) < x1 then (if ((q2.2.1 x0).1 : Int) = 0 then (G 3 [.inr (.inr x0), .inl x2] q2.2).bind fun q3 => if (q3.1 : Int) < x1 then (K 2 [some (.inr (.inr x0)), some (.inl x1), some (.inl (zi_w (x2 + 1)))] [] q3.2) else (if (1 : Int) = 0 ∨ (1 : Int) = 1 then some (1, q3.2) else none) else none) else (K 2 [some (.inr (.inr x0)), some (.inl x1), some (.inl (zi_w (x2 + 1)))] [] q2.2) else none) else none) else (if (0 : Int) = 0 ∨ (0 : Int) = 1 then some (0, σ) else none) else none) := rfl
theorem zk_8_2 {G : Nat → List zV → zM → zR} {n : Nat} {x0 x1 x2 : Int} {σ : zM} : zi_run zt_8 G (n + 1) 2 [some (.inr (.inr x0)), some (.inl x1), some (.inl x2)] [] σ = ((fun (K : Nat → zL → List zV → zM → zR) => if (σ.1 x0).1 = 0 then if (x2 : Int) < (σ.2.1 x0 0) then (if ((σ.1 x0).1 : Int) = 0 then (G 4 [.inr (.inr x0), .inl x2] σ).bind fun q1 => if (q1.1 : Int) = 0 then (K 2 [some (.inr (.inr x0)), some (.inl x1), some (.inl (zi_w (x2 + 1)))] [] q1.2) else (if ((q1.2.1 x0).1 : Int) = 0 then (G 2 [.inr (.inr x0), .inl x2] q1.2).bind fun q2 => if (q2.1 : Int) < x1 then (if ((q2.2.1 x0).1 : Int) = 0 then (G 3 [.inr (.inr x0), .inl x2] q2.2).bind fun q3 => if (q3.1 : Int) < x1 then (K 2 [some (.inr (.inr x0)), some (.inl x1), some (.inl (zi_w (x2 + 1)))] [] q3.2) else (if (1 : Int) = 0 ∨ (1 : Int) = 1 then some (1, q3.2) else none) else none) else (K 2 [some (.inr (.inr x0)), some (.inl x1), some (.inl (zi_w (x2 + 1)))] [] q2.2) else none) else none) else (if (0 : Int) = 0 ∨ (0 : Int) = 1 then some (0, σ) else none) else none) (zi_run zt_8 G n)) := zi_run_succ.trans ze_8_2
-- FoldedRows$Folds.shutsBehind(I)Z
set_option maxRecDepth 20000 in
theorem ze_9_0 {G : Nat → List zV → zM → zR} {K : Nat → zL → List zV → zM → zR} {x0 x1 : Int} {σ : zM} : zi_fr zt_9 G K 600 0 [some (.inr (.inr x0)), some (.inl x1), none] [] σ = (K 2 [some (.inr (.inr x0)), some (.inl x1), some (.inl 0)] [] σ) := rfl
theorem zm_9 {d : Nat} {x0 x1 : Int} {σ : zM} : zG (d + 1) 9 [.inr (.inr x0), .inl x1] σ = ((fun (G : Nat → List zV → zM → zR) (K : Nat → zL → List zV → zM → zR) => K 2 [some (.inr (.inr x0)), some (.inl x1), some (.inl 0)] [] σ) (zG d) (zi_run zt_9 (zG d) 19999)) := (zG_eq zt_9 rfl rfl rfl).trans ze_9_0
set_option maxRecDepth 20000 in
theorem ze_9_2 {G : Nat → List zV → zM → zR} {K : Nat → zL → List zV → zM → zR} {x0 x1 x2 : Int} {σ : zM} : zi_fr zt_9 G K 600 2 [some (.inr (.inr x0)), some (.inl x1), some (.inl x2)] [] σ = (if (σ.1 x0).1 = 0 then if (x2 : Int) < (σ.2.1 x0 0) then (if ((σ.1 x0).1 : Int) = 0 then (G 4 [.inr (.inr x0), .inl x2] σ).bind fun q1 => if (q1.1 : Int) = 0 then (K 2 [some (.inr (.inr x0)), some (.inl x1), some (.inl (zi_w (x2 + 1)))] [] q1.2) else (if ((q1.2.1 x0).1 : Int) = 0 then (G 2 [.inr (.inr x0), .inl x2] q1.2).bind fun q2 => if (q2.1 : Int) = x1 then (if (1 : Int) = 0 ∨ (1 : Int) = 1 then some (1, q2.2) else none) else (K 2 [some (.inr (.inr x0)), some (.inl x1), some (.inl (zi_w (x2 + 1)))] [] q2.2) else none) else none) else (if (0 : Int) = 0 ∨ (0 : Int) = 1 then some (0, σ) else none) else none) := rfl
theorem zk_9_2 {G : Nat → List zV → zM → zR} {n : Nat} {x0 x1 x2 : Int} {σ : zM} : zi_run zt_9 G (n + 1) 2 [some (.inr (.inr x0)), some (.inl x1), some (.inl x2)] [] σ = ((fun (K : Nat → zL → List zV → zM → zR) => if (σ.1 x0).1 = 0 then if (x2 : Int) < (σ.2.1 x0 0) then (if ((σ.1 x0).1 : Int) = 0 then (G 4 [.inr (.inr x0), .inl x2] σ).bind fun q1 => if (q1.1 : Int) = 0 then (K 2 [some (.inr (.inr x0)), some (.inl x1), some (.inl (zi_w (x2 + 1)))] [] q1.2) else (if ((q1.2.1 x0).1 : Int) = 0 then (G 2 [.inr (.inr x0), .inl x2] q1.2).bind fun q2 => if (q2.1 : Int) = x1 then (if (1 : Int) = 0 ∨ (1 : Int) = 1 then some (1, q2.2) else none) else (K 2 [some (.inr (.inr x0)), some (.inl x1), some (.inl (zi_w (x2 + 1)))] [] q2.2) else none) else none) else (if (0 : Int) = 0 ∨ (0 : Int) = 1 then some (0, σ) else none) else none) (zi_run zt_9 G n)) := zi_run_succ.trans ze_9_2
-- FoldedRows$Folds.clash(II)Z
set_option maxRecDepth 20000 in
theorem ze_10_0 {G : Nat → List zV → zM → zR} {K : Nat → zL → List zV → zM → zR} {x0 x1 x2 : Int} {σ : zM} : zi_fr zt_10 G K 600 0 [some (.inr (.inr x0)), some (.inl x1), some (.inl x2), none] [] σ = (K 2 [some (.inr (.inr x0)), some (.inl x1), some (.inl x2), some (.inl 0)] [] σ) := rfl
theorem zm_10 {d : Nat} {x0 x1 x2 : Int} {σ : zM} : zG (d + 1) 10 [.inr (.inr x0), .inl x1, .inl x2] σ = ((fun (G : Nat → List zV → zM → zR) (K : Nat → zL → List zV → zM → zR) => K 2 [some (.inr (.inr x0)), some (.inl x1), some (.inl x2), some (.inl 0)] [] σ) (zG d) (zi_run zt_10 (zG d) 19999)) := (zG_eq zt_10 rfl rfl rfl).trans ze_10_0
set_option maxRecDepth 20000 in
theorem ze_10_2 {G : Nat → List zV → zM → zR} {K : Nat → zL → List zV → zM → zR} {x0 x1 x2 x3 : Int} {σ : zM} : zi_fr zt_10 G K 600 2 [some (.inr (.inr x0)), some (.inl x1), some (.inl x2), some (.inl x3)] [] σ = (if (σ.1 x0).1 = 0 then if (x3 : Int) < (σ.2.1 x0 0) then (if ((σ.1 x0).1 : Int) = 0 then (G 2 [.inr (.inr x0), .inl x3] σ).bind fun q1 => if ((q1.2.1 x0).1 : Int) = 0 then (G 3 [.inr (.inr x0), .inl x3] q1.2).bind fun q2 => (G 16 [.inl q1.1, .inl q2.1, .inl x1, .inl x2] q2.2).bind fun q3 => if (q3.1 : Int) = 0 then (K 2 [some (.inr (.inr x0)), some (.inl x1), some (.inl x2), some (.inl (zi_w (x3 + 1)))] [] q3.2) else (if (1 : Int) = 0 ∨ (1 : Int) = 1 then some (1, q3.2) else none) else none else none) else (if (0 : Int) = 0 ∨ (0 : Int) = 1 then some (0, σ) else none) else none) := rfl
theorem zk_10_2 {G : Nat → List zV → zM → zR} {n : Nat} {x0 x1 x2 x3 : Int} {σ : zM} : zi_run zt_10 G (n + 1) 2 [some (.inr (.inr x0)), some (.inl x1), some (.inl x2), some (.inl x3)] [] σ = ((fun (K : Nat → zL → List zV → zM → zR) => if (σ.1 x0).1 = 0 then if (x3 : Int) < (σ.2.1 x0 0) then (if ((σ.1 x0).1 : Int) = 0 then (G 2 [.inr (.inr x0), .inl x3] σ).bind fun q1 => if ((q1.2.1 x0).1 : Int) = 0 then (G 3 [.inr (.inr x0), .inl x3] q1.2).bind fun q2 => (G 16 [.inl q1.1, .inl q2.1, .inl x1, .inl x2] q2.2).bind fun q3 => if (q3.1 : Int) = 0 then (K 2 [some (.inr (.inr x0)), some (.inl x1), some (.inl x2), some (.inl (zi_w (x3 + 1)))] [] q3.2) else (if (1 : Int) = 0 ∨ (1 : Int) = 1 then some (1, q3.2) else none) else none else none) else (if (0 : Int) = 0 ∨ (0 : Int) = 1 then some (0, σ) else none) else none) (zi_run zt_10 G n)) := zi_run_succ.trans ze_10_2
-- FoldedRows$Folds.add(II)I
set_option maxRecDepth 20000 in
theorem ze_11_0 {G : Nat → List zV → zM → zR} {K : Nat → zL → List zV → zM → zR} {x0 x1 x2 : Int} {σ : zM} : zi_fr zt_11 G K 600 0 [some (.inr (.inr x0)), some (.inl x1), some (.inl x2), none] [] σ = (if (σ.1 x0).1 = 0 then K 5 [some (.inr (.inr x0)), some (.inl x1), some (.inl x2), some (.inl (σ.2.1 x0 0))] [] σ else none) := rfl
theorem zm_11 {d : Nat} {x0 x1 x2 : Int} {σ : zM} : zG (d + 1) 11 [.inr (.inr x0), .inl x1, .inl x2] σ = ((fun (G : Nat → List zV → zM → zR) (K : Nat → zL → List zV → zM → zR) => if (σ.1 x0).1 = 0 then K 5 [some (.inr (.inr x0)), some (.inl x1), some (.inl x2), some (.inl (σ.2.1 x0 0))] [] σ else none) (zG d) (zi_run zt_11 (zG d) 19999)) := (zG_eq zt_11 rfl rfl rfl).trans ze_11_0
set_option maxRecDepth 20000 in
theorem ze_11_5 {G : Nat → List zV → zM → zR} {K : Nat → zL → List zV → zM → zR} {x0 x1 x2 x3 : Int} {σ : zM} : zi_fr zt_11 G K 600 5 [some (.inr (.inr x0)), some (.inl x1), some (.inl x2), some (.inl x3)] [] σ = (if (0 : Int) < x3 then (if ((σ.1 x0).1 : Int) = 0 then (G 2 [.inr (.inr x0), .inl (zi_w (x3 - 1))] σ).bind fun q3 => if ((q3.2.1 x0).1 : Int) = 0 then (G 3 [.inr (.inr x0), .inl (zi_w (x3 - 1))] q3.2).bind fun q4 => (G 17 [.inl x1, .inl x2, .inl q3.1, .inl q4.1] q4.2).bind fun q5 => if (q5.1 : Int) = 0 then (if ((q5.2.1 x0).1 : Int) = 0 then (G 18 [.inr (.inr x0), .inl x3, .inl x1, .inl x2, .inl 0] q5.2).bind fun q6 => if (q6.2.1 x0).1 = 0 then if (q6.2.1 x0).1 = 0 then let s7 : zM := zi_wr q6.2 x0 0 (zi_w ((q6.2.2.1 x0 0) + 1)); some (x3, s7) else none else none else none) else (if ((q5.2.1 x0).1 : Int) = 0 then (G 2 [.inr (.inr x0), .inl (zi_w (x3 - 1))] q5.2).bind fun q8 => if ((q8.2.1 x0).1 : Int) = 0 then (G 3 [.inr (.inr x0), .inl (zi_w (x3 - 1))] q8.2).bind fun q9 => if (q9.2.1 x0).1 = 0 then (G 72 [.inr (.inr (q9.2.2.2.1 x0 3)), .inl (zi_w (x3 - 1))] q9.2).bind fun q10 => if ((q10.2.1 x0).1 : Int) = 0 then (G 18 [.inr (.inr x0), .inl x3, .inl q8.1, .inl q9.1, .inl q10.1] q10.2).bind fun q11 => K 5 [some (.inr (.inr x0)), some (.inl x1), some (.inl x2), some (.inl (zi_w (x3 + (-1))))] [] q11.2 else none else none else none else none) else none else none) else (if ((σ.1 x0).1 : Int) = 0 then (G 18 [.inr (.inr x0), .inl x3, .inl x1, .inl x2, .inl 0] σ).bind fun q1 => if (q1.2.1 x0).1 = 0 then if (q1.2.1 x0).1 = 0 then let s2 : zM := zi_wr q1.2 x0 0 (zi_w ((q1.2.2.1 x0 0) + 1)); some (x3, s2) else none else none else none)) := rfl
theorem zk_11_5 {G : Nat → List zV → zM → zR} {n : Nat} {x0 x1 x2 x3 : Int} {σ : zM} : zi_run zt_11 G (n + 1) 5 [some (.inr (.inr x0)), some (.inl x1), some (.inl x2), some (.inl x3)] [] σ = ((fun (K : Nat → zL → List zV → zM → zR) => if (0 : Int) < x3 then (if ((σ.1 x0).1 : Int) = 0 then (G 2 [.inr (.inr x0), .inl (zi_w (x3 - 1))] σ).bind fun q3 => if ((q3.2.1 x0).1 : Int) = 0 then (G 3 [.inr (.inr x0), .inl (zi_w (x3 - 1))] q3.2).bind fun q4 => (G 17 [.inl x1, .inl x2, .inl q3.1, .inl q4.1] q4.2).bind fun q5 => if (q5.1 : Int) = 0 then (if ((q5.2.1 x0).1 : Int) = 0 then (G 18 [.inr (.inr x0), .inl x3, .inl x1, .inl x2, .inl 0] q5.2).bind fun q6 => if (q6.2.1 x0).1 = 0 then if (q6.2.1 x0).1 = 0 then let s7 : zM := zi_wr q6.2 x0 0 (zi_w ((q6.2.2.1 x0 0) + 1)); some (x3, s7) else none else none else none) else (if ((q5.2.1 x0).1 : Int) = 0 then (G 2 [.inr (.inr x0), .inl (zi_w (x3 - 1))] q5.2).bind fun q8 => if ((q8.2.1 x0).1 : Int) = 0 then (G 3 [.inr (.inr x0), .inl (zi_w (x3 - 1))] q8.2).bind fun q9 => if (q9.2.1 x0).1 = 0 then (G 72 [.inr (.inr (q9.2.2.2.1 x0 3)), .inl (zi_w (x3 - 1))] q9.2).bind fun q10 => if ((q10.2.1 x0).1 : Int) = 0 then (G 18 [.inr (.inr x0), .inl x3, .inl q8.1, .inl q9.1, .inl q10.1] q10.2).bind fun q11 => K 5 [some (.inr (.inr x0)), some (.inl x1), some (.inl x2), some (.inl (zi_w (x3 + (-1))))] [] q11.2 else none else none else none else none) else none else none) else (if ((σ.1 x0).1 : Int) = 0 then (G 18 [.inr (.inr x0), .inl x3, .inl x1, .inl x2, .inl 0] σ).bind fun q1 => if (q1.2.1 x0).1 = 0 then if (q1.2.1 x0).1 = 0 then let s2 : zM := zi_wr q1.2 x0 0 (zi_w ((q1.2.2.1 x0 0) + 1)); some (x3, s2) else none else none else none)) (zi_run zt_11 G n)) := zi_run_succ.trans ze_11_5
-- FoldedRows$Folds.clear()V
set_option maxRecDepth 20000 in
theorem ze_12_0 {G : Nat → List zV → zM → zR} {K : Nat → zL → List zV → zM → zR} {x0 : Int} {σ : zM} : zi_fr zt_12 G K 600 0 [some (.inr (.inr x0))] [] σ = (if (σ.1 x0).1 = 0 then let s1 : zM := zi_wr σ x0 0 0; some (0, s1) else none) := rfl
theorem zm_12 {d : Nat} {x0 : Int} {σ : zM} : zG (d + 1) 12 [.inr (.inr x0)] σ = ((fun (G : Nat → List zV → zM → zR) (K : Nat → zL → List zV → zM → zR) => if (σ.1 x0).1 = 0 then let s1 : zM := zi_wr σ x0 0 0; some (0, s1) else none) (zG d) (zi_run zt_12 (zG d) 19999)) := (zG_eq zt_12 rfl rfl rfl).trans ze_12_0
-- FoldedRows$Folds.followSplit(I)V
set_option maxRecDepth 20000 in
theorem ze_13_0 {G : Nat → List zV → zM → zR} {K : Nat → zL → List zV → zM → zR} {x0 x1 : Int} {σ : zM} : zi_fr zt_13 G K 600 0 [some (.inr (.inr x0)), some (.inl x1), none] [] σ = (K 2 [some (.inr (.inr x0)), some (.inl x1), some (.inl 0)] [] σ) := rfl
theorem zm_13 {d : Nat} {x0 x1 : Int} {σ : zM} : zG (d + 1) 13 [.inr (.inr x0), .inl x1] σ = ((fun (G : Nat → List zV → zM → zR) (K : Nat → zL → List zV → zM → zR) => K 2 [some (.inr (.inr x0)), some (.inl x1), some (.inl 0)] [] σ) (zG d) (zi_run zt_13 (zG d) 19999)) := (zG_eq zt_13 rfl rfl rfl).trans ze_13_0
set_option maxRecDepth 20000 in
theorem ze_13_2 {G : Nat → List zV → zM → zR} {K : Nat → zL → List zV → zM → zR} {x0 x1 x2 : Int} {σ : zM} : zi_fr zt_13 G K 600 2 [some (.inr (.inr x0)), some (.inl x1), some (.inl x2)] [] σ = (if (σ.1 x0).1 = 0 then if (x2 : Int) < (σ.2.1 x0 0) then (if (σ.1 x0).1 = 0 then if ((σ.1 x0).1 : Int) = 0 then (G 2 [.inr (.inr x0), .inl x2] σ).bind fun q1 => if (x1 : Int) < q1.1 then (if ((q1.2.1 x0).1 : Int) = 0 then (G 2 [.inr (.inr x0), .inl x2] q1.2).bind fun q9 => (G 73 [.inr (.inr (σ.2.2.1 x0 1)), .inl x2, .inl (zi_w (q9.1 + 1))] q9.2).bind fun q10 => if (q10.2.1 x0).1 = 0 then if ((q10.2.1 x0).1 : Int) = 0 then (G 3 [.inr (.inr x0), .inl x2] q10.2).bind fun q11 => if (q11.1 : Int) < x1 then (if ((q11.2.1 x0).1 : Int) = 0 then (G 3 [.inr (.inr x0), .inl x2] q11.2).bind fun q12 => (G 73 [.inr (.inr (q10.2.2.2.1 x0 2)), .inl x2, .inl q12.1] q12.2).bind fun q13 => K 2 [some (.inr (.inr x0)), some (.inl x1), some (.inl (zi_w (x2 + 1)))] [] q13.2 else none) else (if ((q11.2.1 x0).1 : Int) = 0 then (G 3 [.inr (.inr x0), .inl x2] q11.2).bind fun q14 => (G 73 [.inr (.inr (q10.2.2.2.1 x0 2)), .inl x2, .inl (zi_w (q14.1 + 1))] q14.2).bind fun q15 => K 2 [some (.inr (.inr x0)), some (.inl x1), some (.inl (zi_w (x2 + 1)))] [] q15.2 else none) else none else none else none) else (if ((q1.2.1 x0).1 : Int) = 0 then (G 2 [.inr (.inr x0), .inl x2] q1.2).bind fun q2 => (G 73 [.inr (.inr (σ.2.2.1 x0 1)), .inl x2, .inl q2.1] q2.2).bind fun q3 => if (q3.2.1 x0).1 = 0 then if ((q3.2.1 x0).1 : Int) = 0 then (G 3 [.inr (.inr x0), .inl x2] q3.2).bind fun q4 => if (q4.1 : Int) < x1 then (if ((q4.2.1 x0).1 : Int) = 0 then (G 3 [.inr (.inr x0), .inl x2] q4.2).bind fun q5 => (G 73 [.inr (.inr (q3.2.2.2.1 x0 2)), .inl x2, .inl q5.1] q5.2).bind fun q6 => K 2 [some (.inr (.inr x0)), some (.inl x1), some (.inl (zi_w (x2 + 1)))] [] q6.2 else none) else (if ((q4.2.1 x0).1 : Int) = 0 then (G 3 [.inr (.inr x0), .inl x2] q4.2).bind fun q7 => (G 73 [.inr (.inr (q3.2.2.2.1 x0 2)), .inl x2, .inl (zi_w (q7.1 + 1))] q7.2).bind fun q8 => K 2 [some (.inr (.inr x0)), some (.inl x1), some (.inl (zi_w (x2 + 1)))] [] q8.2 else none) else none else none else none) else none else none) else (some (0, σ)) else none) := rfl
theorem zk_13_2 {G : Nat → List zV → zM → zR} {n : Nat} {x0 x1 x2 : Int} {σ : zM} : zi_run zt_13 G (n + 1) 2 [some (.inr (.inr x0)), some (.inl x1), some (.inl x2)] [] σ = ((fun (K : Nat → zL → List zV → zM → zR) => if (σ.1 x0).1 = 0 then if (x2 : Int) < (σ.2.1 x0 0) then (if (σ.1 x0).1 = 0 then if ((σ.1 x0).1 : Int) = 0 then (G 2 [.inr (.inr x0), .inl x2] σ).bind fun q1 => if (x1 : Int) < q1.1 then (if ((q1.2.1 x0).1 : Int) = 0 then (G 2 [.inr (.inr x0), .inl x2] q1.2).bind fun q9 => (G 73 [.inr (.inr (σ.2.2.1 x0 1)), .inl x2, .inl (zi_w (q9.1 + 1))] q9.2).bind fun q10 => if (q10.2.1 x0).1 = 0 then if ((q10.2.1 x0).1 : Int) = 0 then (G 3 [.inr (.inr x0), .inl x2] q10.2).bind fun q11 => if (q11.1 : Int) < x1 then (if ((q11.2.1 x0).1 : Int) = 0 then (G 3 [.inr (.inr x0), .inl x2] q11.2).bind fun q12 => (G 73 [.inr (.inr (q10.2.2.2.1 x0 2)), .inl x2, .inl q12.1] q12.2).bind fun q13 => K 2 [some (.inr (.inr x0)), some (.inl x1), some (.inl (zi_w (x2 + 1)))] [] q13.2 else none) else (if ((q11.2.1 x0).1 : Int) = 0 then (G 3 [.inr (.inr x0), .inl x2] q11.2).bind fun q14 => (G 73 [.inr (.inr (q10.2.2.2.1 x0 2)), .inl x2, .inl (zi_w (q14.1 + 1))] q14.2).bind fun q15 => K 2 [some (.inr (.inr x0)), some (.inl x1), some (.inl (zi_w (x2 + 1)))] [] q15.2 else none) else none else none else none) else (if ((q1.2.1 x0).1 : Int) = 0 then (G 2 [.inr (.inr x0), .inl x2] q1.2).bind fun q2 => (G 73 [.inr (.inr (σ.2.2.1 x0 1)), .inl x2, .inl q2.1] q2.2).bind fun q3 => if (q3.2.1 x0).1 = 0 then if ((q3.2.1 x0).1 : Int) = 0 then (G 3 [.inr (.inr x0), .inl x2] q3.2).bind fun q4 => if (q4.1 : Int) < x1 then (if ((q4.2.1 x0).1 : Int) = 0 then (G 3 [.inr (.inr x0), .inl x2] q4.2).bind fun q5 => (G 73 [.inr (.inr (q3.2.2.2.1 x0 2)), .inl x2, .inl q5.1] q5.2).bind fun q6 => K 2 [some (.inr (.inr x0)), some (.inl x1), some (.inl (zi_w (x2 + 1)))] [] q6.2 else none) else (if ((q4.2.1 x0).1 : Int) = 0 then (G 3 [.inr (.inr x0), .inl x2] q4.2).bind fun q7 => (G 73 [.inr (.inr (q3.2.2.2.1 x0 2)), .inl x2, .inl (zi_w (q7.1 + 1))] q7.2).bind fun q8 => K 2 [some (.inr (.inr x0)), some (.inl x1), some (.inl (zi_w (x2 + 1)))] [] q8.2 else none) else none else none else none) else none else none) else (some (0, σ)) else none) (zi_run zt_13 G n)) := zi_run_succ.trans ze_13_2
-- FoldedRows$Folds.followJoin(I)V
set_option maxRecDepth 20000 in
theorem ze_14_0 {G : Nat → List zV → zM → zR} {K : Nat → zL → List zV → zM → zR} {x0 x1 : Int} {σ : zM} : zi_fr zt_14 G K 600 0 [some (.inr (.inr x0)), some (.inl x1), none, none, none, none] [] σ = (if (σ.1 x0).1 = 0 then if (σ.1 x0).1 = 0 then let s1 : zM := zi_wr σ x0 0 0; K 12 [some (.inr (.inr x0)), some (.inl x1), some (.inl (σ.2.1 x0 0)), some (.inl 0), none, none] [] s1 else none else none) := rfl
theorem zm_14 {d : Nat} {x0 x1 : Int} {σ : zM} : zG (d + 1) 14 [.inr (.inr x0), .inl x1] σ = ((fun (G : Nat → List zV → zM → zR) (K : Nat → zL → List zV → zM → zR) => if (σ.1 x0).1 = 0 then if (σ.1 x0).1 = 0 then let s1 : zM := zi_wr σ x0 0 0; K 12 [some (.inr (.inr x0)), some (.inl x1), some (.inl (σ.2.1 x0 0)), some (.inl 0), none, none] [] s1 else none else none) (zG d) (zi_run zt_14 (zG d) 19999)) := (zG_eq zt_14 rfl rfl rfl).trans ze_14_0
set_option maxRecDepth 20000 in
theorem ze_14_12 {G : Nat → List zV → zM → zR} {K : Nat → zL → List zV → zM → zR} {x0 x1 x2 x3 : Int} {σ : zM} : zi_fr zt_14 G K 600 12 [some (.inr (.inr x0)), some (.inl x1), some (.inl x2), some (.inl x3), none, none] [] σ = (if (x3 : Int) < x2 then (if ((σ.1 x0).1 : Int) = 0 then (G 2 [.inr (.inr x0), .inl x3] σ).bind fun q1 => if (x1 : Int) < q1.1 then (if ((q1.2.1 x0).1 : Int) = 0 then (G 2 [.inr (.inr x0), .inl x3] q1.2).bind fun q6 => if ((q6.2.1 x0).1 : Int) = 0 then (G 3 [.inr (.inr x0), .inl x3] q6.2).bind fun q7 => if (x1 : Int) < q7.1 then (if ((q7.2.1 x0).1 : Int) = 0 then (G 3 [.inr (.inr x0), .inl x3] q7.2).bind fun q9 => K 67 [some (.inr (.inr x0)), some (.inl x1), some (.inl x2), some (.inl x3), some (.inl (zi_w (q6.1 - 1))), none] [.inl (zi_w (q9.1 - 1))] q9.2 else none) else (if ((q7.2.1 x0).1 : Int) = 0 then (G 3 [.inr (.inr x0), .inl x3] q7.2).bind fun q8 => K 67 [some (.inr (.inr x0)), some (.inl x1), some (.inl x2), some (.inl x3), some (.inl (zi_w (q6.1 - 1))), none] [.inl q8.1] q8.2 else none) else none else none) else (if ((q1.2.1 x0).1 : Int) = 0 then (G 2 [.inr (.inr x0), .inl x3] q1.2).bind fun q2 => if ((q2.2.1 x0).1 : Int) = 0 then (G 3 [.inr (.inr x0), .inl x3] q2.2).bind fun q3 => if (x1 : Int) < q3.1 then (if ((q3.2.1 x0).1 : Int) = 0 then (G 3 [.inr (.inr x0), .inl x3] q3.2).bind fun q5 => K 67 [some (.inr (.inr x0)), some (.inl x1), some (.inl x2), some (.inl x3), some (.inl q2.1), none] [.inl (zi_w (q5.1 - 1))] q5.2 else none) else (if ((q3.2.1 x0).1 : Int) = 0 then (G 3 [.inr (.inr x0), .inl x3] q3.2).bind fun q4 => K 67 [some (.inr (.inr x0)), some (.inl x1), some (.inl x2), some (.inl x3), some (.inl q2.1), none] [.inl q4.1] q4.2 else none) else none else none) else none) else (some (0, σ))) := rfl
theorem zk_14_12 {G : Nat → List zV → zM → zR} {n : Nat} {x0 x1 x2 x3 : Int} {σ : zM} : zi_run zt_14 G (n + 1) 12 [some (.inr (.inr x0)), some (.inl x1), some (.inl x2), some (.inl x3), none, none] [] σ = ((fun (K : Nat → zL → List zV → zM → zR) => if (x3 : Int) < x2 then (if ((σ.1 x0).1 : Int) = 0 then (G 2 [.inr (.inr x0), .inl x3] σ).bind fun q1 => if (x1 : Int) < q1.1 then (if ((q1.2.1 x0).1 : Int) = 0 then (G 2 [.inr (.inr x0), .inl x3] q1.2).bind fun q6 => if ((q6.2.1 x0).1 : Int) = 0 then (G 3 [.inr (.inr x0), .inl x3] q6.2).bind fun q7 => if (x1 : Int) < q7.1 then (if ((q7.2.1 x0).1 : Int) = 0 then (G 3 [.inr (.inr x0), .inl x3] q7.2).bind fun q9 => K 67 [some (.inr (.inr x0)), some (.inl x1), some (.inl x2), some (.inl x3), some (.inl (zi_w (q6.1 - 1))), none] [.inl (zi_w (q9.1 - 1))] q9.2 else none) else (if ((q7.2.1 x0).1 : Int) = 0 then (G 3 [.inr (.inr x0), .inl x3] q7.2).bind fun q8 => K 67 [some (.inr (.inr x0)), some (.inl x1), some (.inl x2), some (.inl x3), some (.inl (zi_w (q6.1 - 1))), none] [.inl q8.1] q8.2 else none) else none else none) else (if ((q1.2.1 x0).1 : Int) = 0 then (G 2 [.inr (.inr x0), .inl x3] q1.2).bind fun q2 => if ((q2.2.1 x0).1 : Int) = 0 then (G 3 [.inr (.inr x0), .inl x3] q2.2).bind fun q3 => if (x1 : Int) < q3.1 then (if ((q3.2.1 x0).1 : Int) = 0 then (G 3 [.inr (.inr x0), .inl x3] q3.2).bind fun q5 => K 67 [some (.inr (.inr x0)), some (.inl x1), some (.inl x2), some (.inl x3), some (.inl q2.1), none] [.inl (zi_w (q5.1 - 1))] q5.2 else none) else (if ((q3.2.1 x0).1 : Int) = 0 then (G 3 [.inr (.inr x0), .inl x3] q3.2).bind fun q4 => K 67 [some (.inr (.inr x0)), some (.inl x1), some (.inl x2), some (.inl x3), some (.inl q2.1), none] [.inl q4.1] q4.2 else none) else none else none) else none) else (some (0, σ))) (zi_run zt_14 G n)) := zi_run_succ.trans ze_14_12
set_option maxRecDepth 20000 in
theorem ze_14_67 {G : Nat → List zV → zM → zR} {K : Nat → zL → List zV → zM → zR} {x0 x1 x2 x3 x4 y0 : Int} {σ : zM} : zi_fr zt_14 G K 600 67 [some (.inr (.inr x0)), some (.inl x1), some (.inl x2), some (.inl x3), some (.inl x4), none] [.inl y0] σ = (if (x4 : Int) < y0 then (if ((σ.1 x0).1 : Int) = 0 then (G 10 [.inr (.inr x0), .inl x4, .inl y0] σ).bind fun q1 => if (q1.1 : Int) = 0 then (if (q1.2.1 x0).1 = 0 then if (q1.2.1 x0).1 = 0 then (G 72 [.inr (.inr (q1.2.2.2.1 x0 3)), .inl x3] q1.2).bind fun q2 => if ((q2.2.1 x0).1 : Int) = 0 then (G 18 [.inr (.inr x0), .inl (q1.2.2.1 x0 0), .inl x4, .inl y0, .inl q2.1] q2.2).bind fun q3 => if (q3.2.1 x0).1 = 0 then if (q3.2.1 x0).1 = 0 then let s4 : zM := zi_wr q3.2 x0 0 (zi_w ((q3.2.2.1 x0 0) + 1)); K 12 [some (.inr (.inr x0)), some (.inl x1), some (.inl x2), some (.inl (zi_w (x3 + 1))), none, none] [] s4 else none else none else none else none else none) else (K 12 [some (.inr (.inr x0)), some (.inl x1), some (.inl x2), some (.inl (zi_w (x3 + 1))), none, none] [] q1.2) else none) else (K 12 [some (.inr (.inr x0)), some (.inl x1), some (.inl x2), some (.inl (zi_w (x3 + 1))), none, none] [] σ)) := rfl
theorem zk_14_67 {G : Nat → List zV → zM → zR} {n : Nat} {x0 x1 x2 x3 x4 y0 : Int} {σ : zM} : zi_run zt_14 G (n + 1) 67 [some (.inr (.inr x0)), some (.inl x1), some (.inl x2), some (.inl x3), some (.inl x4), none] [.inl y0] σ = ((fun (K : Nat → zL → List zV → zM → zR) => if (x4 : Int) < y0 then (if ((σ.1 x0).1 : Int) = 0 then (G 10 [.inr (.inr x0), .inl x4, .inl y0] σ).bind fun q1 => if (q1.1 : Int) = 0 then (if (q1.2.1 x0).1 = 0 then if (q1.2.1 x0).1 = 0 then (G 72 [.inr (.inr (q1.2.2.2.1 x0 3)), .inl x3] q1.2).bind fun q2 => if ((q2.2.1 x0).1 : Int) = 0 then (G 18 [.inr (.inr x0), .inl (q1.2.2.1 x0 0), .inl x4, .inl y0, .inl q2.1] q2.2).bind fun q3 => if (q3.2.1 x0).1 = 0 then if (q3.2.1 x0).1 = 0 then let s4 : zM := zi_wr q3.2 x0 0 (zi_w ((q3.2.2.1 x0 0) + 1)); K 12 [some (.inr (.inr x0)), some (.inl x1), some (.inl x2), some (.inl (zi_w (x3 + 1))), none, none] [] s4 else none else none else none else none else none) else (K 12 [some (.inr (.inr x0)), some (.inl x1), some (.inl x2), some (.inl (zi_w (x3 + 1))), none, none] [] q1.2) else none) else (K 12 [some (.inr (.inr x0)), some (.inl x1), some (.inl x2), some (.inl (zi_w (x3 + 1))), none, none] [] σ)) (zi_run zt_14 G n)) := zi_run_succ.trans ze_14_67
-- FoldedRows$Folds.copyFrom(LFoldedRows$Folds;)V
set_option maxRecDepth 20000 in
theorem ze_15_0 {G : Nat → List zV → zM → zR} {K : Nat → zL → List zV → zM → zR} {x0 x1 : Int} {σ : zM} : zi_fr zt_15 G K 600 0 [some (.inr (.inr x0)), some (.inr (.inr x1))] [] σ = (if (σ.1 x1).1 = 0 then if (σ.1 x0).1 = 0 then let s1 : zM := zi_wr σ x0 0 (σ.2.1 x1 0); if (s1.1 x1).1 = 0 then if (s1.1 x0).1 = 0 then (G 74 [.inr (.inr (s1.2.2.1 x1 1)), .inr (.inr (s1.2.2.1 x0 1))] s1).bind fun q2 => if (q2.2.1 x1).1 = 0 then if (q2.2.1 x0).1 = 0 then (G 74 [.inr (.inr (q2.2.2.2.1 x1 2)), .inr (.inr (q2.2.2.2.1 x0 2))] q2.2).bind fun q3 => if (q3.2.1 x1).1 = 0 then if (q3.2.1 x0).1 = 0 then (G 74 [.inr (.inr (q3.2.2.2.1 x1 3)), .inr (.inr (q3.2.2.2.1 x0 3))] q3.2).bind fun q4 => some (0, q4.2) else none else none else none else none else none else none else none else none) := rfl
theorem zm_15 {d : Nat} {x0 x1 : Int} {σ : zM} : zG (d + 1) 15 [.inr (.inr x0), .inr (.inr x1)] σ = ((fun (G : Nat → List zV → zM → zR) (K : Nat → zL → List zV → zM → zR) => if (σ.1 x1).1 = 0 then if (σ.1 x0).1 = 0 then let s1 : zM := zi_wr σ x0 0 (σ.2.1 x1 0); if (s1.1 x1).1 = 0 then if (s1.1 x0).1 = 0 then (G 74 [.inr (.inr (s1.2.2.1 x1 1)), .inr (.inr (s1.2.2.1 x0 1))] s1).bind fun q2 => if (q2.2.1 x1).1 = 0 then if (q2.2.1 x0).1 = 0 then (G 74 [.inr (.inr (q2.2.2.2.1 x1 2)), .inr (.inr (q2.2.2.2.1 x0 2))] q2.2).bind fun q3 => if (q3.2.1 x1).1 = 0 then if (q3.2.1 x0).1 = 0 then (G 74 [.inr (.inr (q3.2.2.2.1 x1 3)), .inr (.inr (q3.2.2.2.1 x0 3))] q3.2).bind fun q4 => some (0, q4.2) else none else none else none else none else none else none else none else none) (zG d) (zi_run zt_15 (zG d) 19999)) := (zG_eq zt_15 rfl rfl rfl).trans ze_15_0
-- FoldedRows$Folds.areAtOdds(IIII)Z
set_option maxRecDepth 20000 in
theorem ze_16_0 {G : Nat → List zV → zM → zR} {K : Nat → zL → List zV → zM → zR} {x0 x1 x2 x3 : Int} {σ : zM} : zi_fr zt_16 G K 600 0 [some (.inl x0), some (.inl x1), some (.inl x2), some (.inl x3), none, none] [] σ = (if (x0 : Int) = x2 then (if (x1 : Int) = x3 then (if (1 : Int) = 0 ∨ (1 : Int) = 1 then some (1, σ) else none) else (K 12 [some (.inl x0), some (.inl x1), some (.inl x2), some (.inl x3), none, none] [] σ)) else (K 12 [some (.inl x0), some (.inl x1), some (.inl x2), some (.inl x3), none, none] [] σ)) := rfl
theorem zm_16 {d : Nat} {x0 x1 x2 x3 : Int} {σ : zM} : zG (d + 1) 16 [.inl x0, .inl x1, .inl x2, .inl x3] σ = ((fun (G : Nat → List zV → zM → zR) (K : Nat → zL → List zV → zM → zR) => if (x0 : Int) = x2 then (if (x1 : Int) = x3 then (if (1 : Int) = 0 ∨ (1 : Int) = 1 then some (1, σ) else none) else (K 12 [some (.inl x0), some (.inl x1), some (.inl x2), some (.inl x3), none, none] [] σ)) else (K 12 [some (.inl x0), some (.inl x1), some (.inl x2), some (.inl x3), none, none] [] σ)) (zG d) (zi_run zt_16 (zG d) 19999)) := (zG_eq zt_16 rfl rfl rfl).trans ze_16_0
set_option maxRecDepth 20000 in
theorem ze_16_12 {G : Nat → List zV → zM → zR} {K : Nat → zL → List zV → zM → zR} {x0 x1 x2 x3 : Int} {σ : zM} : zi_fr zt_16 G K 600 12 [some (.inl x0), some (.inl x1), some (.inl x2), some (.inl x3), none, none] [] σ = (if (x1 : Int) < x2 then (K 27 [some (.inl x0), some (.inl x1), some (.inl x2), some (.inl x3), none, none] [.inl 1] σ) else (if (x3 : Int) < x0 then (K 27 [some (.inl x0), some (.inl x1), some (.inl x2), some (.inl x3), none, none] [.inl 1] σ) else (K 27 [some (.inl x0), some (.inl x1), some (.inl x2), some (.inl x3), none, none] [.inl 0] σ))) := rfl
theorem zk_16_12 {G : Nat → List zV → zM → zR} {n : Nat} {x0 x1 x2 x3 : Int} {σ : zM} : zi_run zt_16 G (n + 1) 12 [some (.inl x0), some (.inl x1), some (.inl x2), some (.inl x3), none, none] [] σ = ((fun (K : Nat → zL → List zV → zM → zR) => if (x1 : Int) < x2 then (K 27 [some (.inl x0), some (.inl x1), some (.inl x2), some (.inl x3), none, none] [.inl 1] σ) else (if (x3 : Int) < x0 then (K 27 [some (.inl x0), some (.inl x1), some (.inl x2), some (.inl x3), none, none] [.inl 1] σ) else (K 27 [some (.inl x0), some (.inl x1), some (.inl x2), some (.inl x3), none, none] [.inl 0] σ))) (zi_run zt_16 G n)) := zi_run_succ.trans ze_16_12
set_option maxRecDepth 20000 in
theorem ze_16_27 {G : Nat → List zV → zM → zR} {K : Nat → zL → List zV → zM → zR} {x0 x1 x2 x3 y0 : Int} {σ : zM} : zi_fr zt_16 G K 600 27 [some (.inl x0), some (.inl x1), some (.inl x2), some (.inl x3), none, none] [.inl y0] σ = (if (x2 : Int) < x0 then (if (x0 : Int) < x2 then (K 54 [none, none, none, none, some (.inl y0), none] [.inl 0] σ) else (if (x3 : Int) < x1 then (K 54 [none, none, none, none, some (.inl y0), none] [.inl 0] σ) else (K 54 [none, none, none, none, some (.inl y0), none] [.inl 1] σ))) else (if (x1 : Int) < x3 then (if (x0 : Int) < x2 then (K 54 [none, none, none, none, some (.inl y0), none] [.inl 0] σ) else (if (x3 : Int) < x1 then (K 54 [none, none, none, none, some (.inl y0), none] [.inl 0] σ) else (K 54 [none, none, none, none, some (.inl y0), none] [.inl 1] σ))) else (K 54 [none, none, none, none, some (.inl y0), none] [.inl 1] σ))) := rfl
theorem zk_16_27 {G : Nat → List zV → zM → zR} {n : Nat} {x0 x1 x2 x3 y0 : Int} {σ : zM} : zi_run zt_16 G (n + 1) 27 [some (.inl x0), some (.inl x1), some (.inl x2), some (.inl x3), none, none] [.inl y0] σ = ((fun (K : Nat → zL → List zV → zM → zR) => if (x2 : Int) < x0 then (if (x0 : Int) < x2 then (K 54 [none, none, none, none, some (.inl y0), none] [.inl 0] σ) else (if (x3 : Int) < x1 then (K 54 [none, none, none, none, some (.inl y0), none] [.inl 0] σ) else (K 54 [none, none, none, none, some (.inl y0), none] [.inl 1] σ))) else (if (x1 : Int) < x3 then (if (x0 : Int) < x2 then (K 54 [none, none, none, none, some (.inl y0), none] [.inl 0] σ) else (if (x3 : Int) < x1 then (K 54 [none, none, none, none, some (.inl y0), none] [.inl 0] σ) else (K 54 [none, none, none, none, some (.inl y0), none] [.inl 1] σ))) else (K 54 [none, none, none, none, some (.inl y0), none] [.inl 1] σ))) (zi_run zt_16 G n)) := zi_run_succ.trans ze_16_27
set_option maxRecDepth 20000 in
theorem ze_16_54 {G : Nat → List zV → zM → zR} {K : Nat → zL → List zV → zM → zR} {x4 y0 : Int} {σ : zM} : zi_fr zt_16 G K 600 54 [none, none, none, none, some (.inl x4), none] [.inl y0] σ = (if (x4 : Int) = 0 then (if (y0 : Int) = 0 then (if (1 : Int) = 0 ∨ (1 : Int) = 1 then some (1, σ) else none) else (if (0 : Int) = 0 ∨ (0 : Int) = 1 then some (0, σ) else none)) else (if (0 : Int) = 0 ∨ (0 : Int) = 1 then some (0, σ) else none)) := rfl
theorem zk_16_54 {G : Nat → List zV → zM → zR} {n : Nat} {x4 y0 : Int} {σ : zM} : zi_run zt_16 G (n + 1) 54 [none, none, none, none, some (.inl x4), none] [.inl y0] σ = ((fun (K : Nat → zL → List zV → zM → zR) => if (x4 : Int) = 0 then (if (y0 : Int) = 0 then (if (1 : Int) = 0 ∨ (1 : Int) = 1 then some (1, σ) else none) else (if (0 : Int) = 0 ∨ (0 : Int) = 1 then some (0, σ) else none)) else (if (0 : Int) = 0 ∨ (0 : Int) = 1 then some (0, σ) else none)) (zi_run zt_16 G n)) := zi_run_succ.trans ze_16_54
-- FoldedRows$Folds.comeAhead(IIII)Z
set_option maxRecDepth 20000 in
theorem ze_17_0 {G : Nat → List zV → zM → zR} {K : Nat → zL → List zV → zM → zR} {x0 x1 x2 x3 : Int} {σ : zM} : zi_fr zt_17 G K 600 0 [some (.inl x0), some (.inl x1), some (.inl x2), some (.inl x3)] [] σ = (if (x0 : Int) < x2 then (if (1 : Int) = 0 ∨ (1 : Int) = 1 then some (1, σ) else none) else (if (x0 : Int) = x2 then (if (x3 : Int) < x1 then (if (1 : Int) = 0 ∨ (1 : Int) = 1 then some (1, σ) else none) else (if (0 : Int) = 0 ∨ (0 : Int) = 1 then some (0, σ) else none)) else (if (0 : Int) = 0 ∨ (0 : Int) = 1 then some (0, σ) else none))) := rfl
theorem zm_17 {d : Nat} {x0 x1 x2 x3 : Int} {σ : zM} : zG (d + 1) 17 [.inl x0, .inl x1, .inl x2, .inl x3] σ = ((fun (G : Nat → List zV → zM → zR) (K : Nat → zL → List zV → zM → zR) => if (x0 : Int) < x2 then (if (1 : Int) = 0 ∨ (1 : Int) = 1 then some (1, σ) else none) else (if (x0 : Int) = x2 then (if (x3 : Int) < x1 then (if (1 : Int) = 0 ∨ (1 : Int) = 1 then some (1, σ) else none) else (if (0 : Int) = 0 ∨ (0 : Int) = 1 then some (0, σ) else none)) else (if (0 : Int) = 0 ∨ (0 : Int) = 1 then some (0, σ) else none))) (zG d) (zi_run zt_17 (zG d) 19999)) := (zG_eq zt_17 rfl rfl rfl).trans ze_17_0
-- FoldedRows$Folds.write(IIII)V
set_option maxRecDepth 20000 in
theorem ze_18_0 {G : Nat → List zV → zM → zR} {K : Nat → zL → List zV → zM → zR} {x0 x1 x2 x3 x4 : Int} {σ : zM} : zi_fr zt_18 G K 600 0 [some (.inr (.inr x0)), some (.inl x1), some (.inl x2), some (.inl x3), some (.inl x4)] [] σ = (if (σ.1 x0).1 = 0 then (G 73 [.inr (.inr (σ.2.2.1 x0 1)), .inl x1, .inl x2] σ).bind fun q1 => if (q1.2.1 x0).1 = 0 then (G 73 [.inr (.inr (q1.2.2.2.1 x0 2)), .inl x1, .inl x3] q1.2).bind fun q2 => if (q2.2.1 x0).1 = 0 then (G 73 [.inr (.inr (q2.2.2.2.1 x0 3)), .inl x1, .inl x4] q2.2).bind fun q3 => some (0, q3.2) else none else none else none) := rfl
theorem zm_18 {d : Nat} {x0 x1 x2 x3 x4 : Int} {σ : zM} : zG (d + 1) 18 [.inr (.inr x0), .inl x1, .inl x2, .inl x3, .inl x4] σ = ((fun (G : Nat → List zV → zM → zR) (K : Nat → zL → List zV → zM → zR) => if (σ.1 x0).1 = 0 then (G 73 [.inr (.inr (σ.2.2.1 x0 1)), .inl x1, .inl x2] σ).bind fun q1 => if (q1.2.1 x0).1 = 0 then (G 73 [.inr (.inr (q1.2.2.2.1 x0 2)), .inl x1, .inl x3] q1.2).bind fun q2 => if (q2.2.1 x0).1 = 0 then (G 73 [.inr (.inr (q2.2.2.2.1 x0 3)), .inl x1, .inl x4] q2.2).bind fun q3 => some (0, q3.2) else none else none else none) (zG d) (zi_run zt_18 (zG d) 19999)) := (zG_eq zt_18 rfl rfl rfl).trans ze_18_0
-- FoldedRows$Frame.<init>()V
set_option maxRecDepth 20000 in
theorem ze_19_0 {G : Nat → List zV → zM → zR} {K : Nat → zL → List zV → zM → zR} {x0 : Int} {σ : zM} : zi_fr zt_19 G K 600 0 [some (.inr (.inr x0))] [] σ = (if ((σ.1 x0).1 : Int) = 1 then (G 1000 [.inr (.inr x0)] σ).bind fun q1 => let s2 : zM := zi_new q1.2 5 0 3; if ((s2.1 q1.2.2.2.2.1).1 : Int) = 5 then (G 55 [.inr (.inr q1.2.2.2.2.1)] s2).bind fun q3 => if (q3.2.1 x0).1 = 1 then let s4 : zM := zi_wq q3.2 x0 0 q1.2.2.2.2.1; let s5 : zM := zi_new s4 0 0 4; if ((s5.1 s4.2.2.2.1).1 : Int) = 0 then (G 0 [.inr (.inr s4.2.2.2.1)] s5).bind fun q6 => if (q6.2.1 x0).1 = 1 then let s7 : zM := zi_wq q6.2 x0 1 s4.2.2.2.1; if (s7.1 x0).1 = 1 then let s8 : zM := zi_wr s7 x0 2 0; if (s8.1 x0).1 = 1 then let s9 : zM := zi_wr s8 x0 3 0; some (0, s9) else none else none else none else none else none else none else none) := rfl
theorem zm_19 {d : Nat} {x0 : Int} {σ : zM} : zG (d + 1) 19 [.inr (.inr x0)] σ = ((fun (G : Nat → List zV → zM → zR) (K : Nat → zL → List zV → zM → zR) => if ((σ.1 x0).1 : Int) = 1 then (G 1000 [.inr (.inr x0)] σ).bind fun q1 => let s2 : zM := zi_new q1.2 5 0 3; if ((s2.1 q1.2.2.2.2.1).1 : Int) = 5 then (G 55 [.inr (.inr q1.2.2.2.2.1)] s2).bind fun q3 => if (q3.2.1 x0).1 = 1 then let s4 : zM := zi_wq q3.2 x0 0 q1.2.2.2.2.1; let s5 : zM := zi_new s4 0 0 4; if ((s5.1 s4.2.2.2.1).1 : Int) = 0 then (G 0 [.inr (.inr s4.2.2.2.1)] s5).bind fun q6 => if (q6.2.1 x0).1 = 1 then let s7 : zM := zi_wq q6.2 x0 1 s4.2.2.2.1; if (s7.1 x0).1 = 1 then let s8 : zM := zi_wr s7 x0 2 0; if (s8.1 x0).1 = 1 then let s9 : zM := zi_wr s8 x0 3 0; some (0, s9) else none else none else none else none else none else none else none) (zG d) (zi_run zt_19 (zG d) 19999)) := (zG_eq zt_19 rfl rfl rfl).trans ze_19_0
-- FoldedRows$Frame.clear()V
set_option maxRecDepth 20000 in
theorem ze_20_0 {G : Nat → List zV → zM → zR} {K : Nat → zL → List zV → zM → zR} {x0 : Int} {σ : zM} : zi_fr zt_20 G K 600 0 [some (.inr (.inr x0))] [] σ = (if (σ.1 x0).1 = 1 then if ((σ.1 (σ.2.2.1 x0 0)).1 : Int) = 5 then (G 61 [.inr (.inr (σ.2.2.1 x0 0))] σ).bind fun q1 => if (q1.2.1 x0).1 = 1 then if ((q1.2.1 (q1.2.2.2.1 x0 1)).1 : Int) = 0 then (G 12 [.inr (.inr (q1.2.2.2.1 x0 1))] q1.2).bind fun q2 => if (q2.2.1 x0).1 = 1 then let s3 : zM := zi_wr q2.2 x0 2 0; if (s3.1 x0).1 = 1 then let s4 : zM := zi_wr s3 x0 3 0; some (0, s4) else none else none else none else none else none else none) := rfl
theorem zm_20 {d : Nat} {x0 : Int} {σ : zM} : zG (d + 1) 20 [.inr (.inr x0)] σ = ((fun (G : Nat → List zV → zM → zR) (K : Nat → zL → List zV → zM → zR) => if (σ.1 x0).1 = 1 then if ((σ.1 (σ.2.2.1 x0 0)).1 : Int) = 5 then (G 61 [.inr (.inr (σ.2.2.1 x0 0))] σ).bind fun q1 => if (q1.2.1 x0).1 = 1 then if ((q1.2.1 (q1.2.2.2.1 x0 1)).1 : Int) = 0 then (G 12 [.inr (.inr (q1.2.2.2.1 x0 1))] q1.2).bind fun q2 => if (q2.2.1 x0).1 = 1 then let s3 : zM := zi_wr q2.2 x0 2 0; if (s3.1 x0).1 = 1 then let s4 : zM := zi_wr s3 x0 3 0; some (0, s4) else none else none else none else none else none else none) (zG d) (zi_run zt_20 (zG d) 19999)) := (zG_eq zt_20 rfl rfl rfl).trans ze_20_0
-- FoldedRows$Frame.copyFrom(LFoldedRows$Frame;)V
set_option maxRecDepth 20000 in
theorem ze_21_0 {G : Nat → List zV → zM → zR} {K : Nat → zL → List zV → zM → zR} {x0 x1 : Int} {σ : zM} : zi_fr zt_21 G K 600 0 [some (.inr (.inr x0)), some (.inr (.inr x1))] [] σ = (if (σ.1 x0).1 = 1 then if (σ.1 x1).1 = 1 then if ((σ.1 (σ.2.2.1 x0 0)).1 : Int) = 5 then (G 68 [.inr (.inr (σ.2.2.1 x0 0)), .inr (.inr (σ.2.2.1 x1 0))] σ).bind fun q1 => if (q1.2.1 x0).1 = 1 then if (q1.2.1 x1).1 = 1 then if ((q1.2.1 (q1.2.2.2.1 x0 1)).1 : Int) = 0 then (G 15 [.inr (.inr (q1.2.2.2.1 x0 1)), .inr (.inr (q1.2.2.2.1 x1 1))] q1.2).bind fun q2 => if (q2.2.1 x1).1 = 1 then if (q2.2.1 x0).1 = 1 then let s3 : zM := zi_wr q2.2 x0 2 (q2.2.2.1 x1 2); if (s3.1 x1).1 = 1 then if (s3.1 x0).1 = 1 then let s4 : zM := zi_wr s3 x0 3 (s3.2.1 x1 3); some (0, s4) else none else none else none else none else none else none else none else none else none else none) := rfl
theorem zm_21 {d : Nat} {x0 x1 : Int} {σ : zM} : zG (d + 1) 21 [.inr (.inr x0), .inr (.inr x1)] σ = ((fun (G : Nat → List zV → zM → zR) (K : Nat → zL → List zV → zM → zR) => if (σ.1 x0).1 = 1 then if (σ.1 x1).1 = 1 then if ((σ.1 (σ.2.2.1 x0 0)).1 : Int) = 5 then (G 68 [.inr (.inr (σ.2.2.1 x0 0)), .inr (.inr (σ.2.2.1 x1 0))] σ).bind fun q1 => if (q1.2.1 x0).1 = 1 then if (q1.2.1 x1).1 = 1 then if ((q1.2.1 (q1.2.2.2.1 x0 1)).1 : Int) = 0 then (G 15 [.inr (.inr (q1.2.2.2.1 x0 1)), .inr (.inr (q1.2.2.2.1 x1 1))] q1.2).bind fun q2 => if (q2.2.1 x1).1 = 1 then if (q2.2.1 x0).1 = 1 then let s3 : zM := zi_wr q2.2 x0 2 (q2.2.2.1 x1 2); if (s3.1 x1).1 = 1 then if (s3.1 x0).1 = 1 then let s4 : zM := zi_wr s3 x0 3 (s3.2.1 x1 3); some (0, s4) else none else none else none else none else none else none else none else none else none else none) (zG d) (zi_run zt_21 (zG d) 19999)) := (zG_eq zt_21 rfl rfl rfl).trans ze_21_0
-- FoldedRows$Frame.hiddenLines()I
set_option maxRecDepth 20000 in
theorem ze_22_0 {G : Nat → List zV → zM → zR} {K : Nat → zL → List zV → zM → zR} {x0 : Int} {σ : zM} : zi_fr zt_22 G K 600 0 [some (.inr (.inr x0)), none, none] [] σ = (K 4 [some (.inr (.inr x0)), some (.inl 0), some (.inl 0)] [] σ) := rfl
theorem zm_22 {d : Nat} {x0 : Int} {σ : zM} : zG (d + 1) 22 [.inr (.inr x0)] σ = ((fun (G : Nat → List zV → zM → zR) (K : Nat → zL → List zV → zM → zR) => K 4 [some (.inr (.inr x0)), some (.inl 0), some (.inl 0)] [] σ) (zG d) (zi_run zt_22 (zG d) 19999)) := (zG_eq zt_22 rfl rfl rfl).trans ze_22_0
set_option maxRecDepth 20000 in
theorem ze_22_4 {G : Nat → List zV → zM → zR} {K : Nat → zL → List zV → zM → zR} {x0 x1 x2 : Int} {σ : zM} : zi_fr zt_22 G K 600 4 [some (.inr (.inr x0)), some (.inl x1), some (.inl x2)] [] σ = (if (σ.1 x0).1 = 1 then if (σ.1 (σ.2.2.1 x0 0)).1 = 5 then if (x2 : Int) < (σ.2.1 (σ.2.2.1 x0 0) 0) then (if (σ.1 x0).1 = 1 then if ((σ.1 (σ.2.2.1 x0 1)).1 : Int) = 0 then (G 8 [.inr (.inr (σ.2.2.1 x0 1)), .inl x2] σ).bind fun q1 => if (q1.1 : Int) = 0 then (K 4 [some (.inr (.inr x0)), some (.inl x1), some (.inl (zi_w (x2 + 1)))] [] q1.2) else (K 4 [some (.inr (.inr x0)), some (.inl (zi_w (x1 + 1))), some (.inl (zi_w (x2 + 1)))] [] q1.2) else none else none) else (some (x1, σ)) else none else none) := rfl
theorem zk_22_4 {G : Nat → List zV → zM → zR} {n : Nat} {x0 x1 x2 : Int} {σ : zM} : zi_run zt_22 G (n + 1) 4 [some (.inr (.inr x0)), some (.inl x1), some (.inl x2)] [] σ = ((fun (K : Nat → zL → List zV → zM → zR) => if (σ.1 x0).1 = 1 then if (σ.1 (σ.2.2.1 x0 0)).1 = 5 then if (x2 : Int) < (σ.2.1 (σ.2.2.1 x0 0) 0) then (if (σ.1 x0).1 = 1 then if ((σ.1 (σ.2.2.1 x0 1)).1 : Int) = 0 then (G 8 [.inr (.inr (σ.2.2.1 x0 1)), .inl x2] σ).bind fun q1 => if (q1.1 : Int) = 0 then (K 4 [some (.inr (.inr x0)), some (.inl x1), some (.inl (zi_w (x2 + 1)))] [] q1.2) else (K 4 [some (.inr (.inr x0)), some (.inl (zi_w (x1 + 1))), some (.inl (zi_w (x2 + 1)))] [] q1.2) else none else none) else (some (x1, σ)) else none else none) (zi_run zt_22 G n)) := zi_run_succ.trans ze_22_4
-- FoldedRows$Frame.shownLineAhead()I
set_option maxRecDepth 20000 in
theorem ze_23_0 {G : Nat → List zV → zM → zR} {K : Nat → zL → List zV → zM → zR} {x0 : Int} {σ : zM} : zi_fr zt_23 G K 600 0 [some (.inr (.inr x0)), none] [] σ = (if (σ.1 x0).1 = 1 then K 7 [some (.inr (.inr x0)), some (.inl (zi_w ((σ.2.1 x0 2) - 1)))] [] σ else none) := rfl
theorem zm_23 {d : Nat} {x0 : Int} {σ : zM} : zG (d + 1) 23 [.inr (.inr x0)] σ = ((fun (G : Nat → List zV → zM → zR) (K : Nat → zL → List zV → zM → zR) => if (σ.1 x0).1 = 1 then K 7 [some (.inr (.inr x0)), some (.inl (zi_w ((σ.2.1 x0 2) - 1)))] [] σ else none) (zG d) (zi_run zt_23 (zG d) 19999)) := (zG_eq zt_23 rfl rfl rfl).trans ze_23_0
set_option maxRecDepth 20000 in
theorem ze_23_7 {G : Nat → List zV → zM → zR} {K : Nat → zL → List zV → zM → zR} {x0 x1 : Int} {σ : zM} : zi_fr zt_23 G K 600 7 [some (.inr (.inr x0)), some (.inl x1)] [] σ = (if (x1 : Int) < 0 then (some ((-1), σ)) else (if (σ.1 x0).1 = 1 then if ((σ.1 (σ.2.2.1 x0 1)).1 : Int) = 0 then (G 8 [.inr (.inr (σ.2.2.1 x0 1)), .inl x1] σ).bind fun q1 => if (q1.1 : Int) = 0 then (some (x1, q1.2)) else (K 7 [some (.inr (.inr x0)), some (.inl (zi_w (x1 + (-1))))] [] q1.2) else none else none)) := rfl
theorem zk_23_7 {G : Nat → List zV → zM → zR} {n : Nat} {x0 x1 : Int} {σ : zM} : zi_run zt_23 G (n + 1) 7 [some (.inr (.inr x0)), some (.inl x1)] [] σ = ((fun (K : Nat → zL → List zV → zM → zR) => if (x1 : Int) < 0 then (some ((-1), σ)) else (if (σ.1 x0).1 = 1 then if ((σ.1 (σ.2.2.1 x0 1)).1 : Int) = 0 then (G 8 [.inr (.inr (σ.2.2.1 x0 1)), .inl x1] σ).bind fun q1 => if (q1.1 : Int) = 0 then (some (x1, q1.2)) else (K 7 [some (.inr (.inr x0)), some (.inl (zi_w (x1 + (-1))))] [] q1.2) else none else none)) (zi_run zt_23 G n)) := zi_run_succ.trans ze_23_7
-- FoldedRows$Frame.shownLineBehind()I
set_option maxRecDepth 20000 in
theorem ze_24_0 {G : Nat → List zV → zM → zR} {K : Nat → zL → List zV → zM → zR} {x0 : Int} {σ : zM} : zi_fr zt_24 G K 600 0 [some (.inr (.inr x0)), none] [] σ = (if (σ.1 x0).1 = 1 then K 7 [some (.inr (.inr x0)), some (.inl (zi_w ((σ.2.1 x0 2) + 1)))] [] σ else none) := rfl
theorem zm_24 {d : Nat} {x0 : Int} {σ : zM} : zG (d + 1) 24 [.inr (.inr x0)] σ = ((fun (G : Nat → List zV → zM → zR) (K : Nat → zL → List zV → zM → zR) => if (σ.1 x0).1 = 1 then K 7 [some (.inr (.inr x0)), some (.inl (zi_w ((σ.2.1 x0 2) + 1)))] [] σ else none) (zG d) (zi_run zt_24 (zG d) 19999)) := (zG_eq zt_24 rfl rfl rfl).trans ze_24_0
set_option maxRecDepth 20000 in
theorem ze_24_7 {G : Nat → List zV → zM → zR} {K : Nat → zL → List zV → zM → zR} {x0 x1 : Int} {σ : zM} : zi_fr zt_24 G K 600 7 [some (.inr (.inr x0)), some (.inl x1)] [] σ = (if (σ.1 x0).1 = 1 then if (σ.1 (σ.2.2.1 x0 0)).1 = 5 then if (x1 : Int) < (σ.2.1 (σ.2.2.1 x0 0) 0) then (if (σ.1 x0).1 = 1 then if ((σ.1 (σ.2.2.1 x0 1)).1 : Int) = 0 then (G 8 [.inr (.inr (σ.2.2.1 x0 1)), .inl x1] σ).bind fun q1 => if (q1.1 : Int) = 0 then (some (x1, q1.2)) else (K 7 [some (.inr (.inr x0)), some (.inl (zi_w (x1 + 1)))] [] q1.2) else none else none) else (some ((-1), σ)) else none else none) := rfl
theorem zk_24_7 {G : Nat → List zV → zM → zR} {n : Nat} {x0 x1 : Int} {σ : zM} : zi_run zt_24 G (n + 1) 7 [some (.inr (.inr x0)), some (.inl x1)] [] σ = ((fun (K : Nat → zL → List zV → zM → zR) => if (σ.1 x0).1 = 1 then if (σ.1 (σ.2.2.1 x0 0)).1 = 5 then if (x1 : Int) < (σ.2.1 (σ.2.2.1 x0 0) 0) then (if (σ.1 x0).1 = 1 then if ((σ.1 (σ.2.2.1 x0 1)).1 : Int) = 0 then (G 8 [.inr (.inr (σ.2.2.1 x0 1)), .inl x1] σ).bind fun q1 => if (q1.1 : Int) = 0 then (some (x1, q1.2)) else (K 7 [some (.inr (.inr x0)), some (.inl (zi_w (x1 + 1)))] [] q1.2) else none else none) else (some ((-1), σ)) else none else none) (zi_run zt_24 G n)) := zi_run_succ.trans ze_24_7
-- FoldedRows$History.<init>()V
set_option maxRecDepth 20000 in
theorem ze_25_0 {G : Nat → List zV → zM → zR} {K : Nat → zL → List zV → zM → zR} {x0 : Int} {σ : zM} : zi_fr zt_25 G K 600 0 [some (.inr (.inr x0)), none] [] σ = (if ((σ.1 x0).1 : Int) = 2 then (G 1000 [.inr (.inr x0)] σ).bind fun q1 => if (0 : Int) ≤ 16 ∧ (16 : Int) ≤ 100000 then let s2 : zM := zi_new q1.2 14 16 (Int.toNat 16); if (s2.1 x0).1 = 2 then let s3 : zM := zi_wq s2 x0 0 q1.2.2.2.2.1; if (s3.1 x0).1 = 2 then let s4 : zM := zi_wr s3 x0 1 0; if (s4.1 x0).1 = 2 then let s5 : zM := zi_wr s4 x0 2 0; K 25 [some (.inr (.inr x0)), some (.inl 0)] [] s5 else none else none else none else none else none) := rfl
theorem zm_25 {d : Nat} {x0 : Int} {σ : zM} : zG (d + 1) 25 [.inr (.inr x0)] σ = ((fun (G : Nat → List zV → zM → zR) (K : Nat → zL → List zV → zM → zR) => if ((σ.1 x0).1 : Int) = 2 then (G 1000 [.inr (.inr x0)] σ).bind fun q1 => if (0 : Int) ≤ 16 ∧ (16 : Int) ≤ 100000 then let s2 : zM := zi_new q1.2 14 16 (Int.toNat 16); if (s2.1 x0).1 = 2 then let s3 : zM := zi_wq s2 x0 0 q1.2.2.2.2.1; if (s3.1 x0).1 = 2 then let s4 : zM := zi_wr s3 x0 1 0; if (s4.1 x0).1 = 2 then let s5 : zM := zi_wr s4 x0 2 0; K 25 [some (.inr (.inr x0)), some (.inl 0)] [] s5 else none else none else none else none else none) (zG d) (zi_run zt_25 (zG d) 19999)) := (zG_eq zt_25 rfl rfl rfl).trans ze_25_0
set_option maxRecDepth 20000 in
theorem ze_25_25 {G : Nat → List zV → zM → zR} {K : Nat → zL → List zV → zM → zR} {x0 x1 : Int} {σ : zM} : zi_fr zt_25 G K 600 25 [some (.inr (.inr x0)), some (.inl x1)] [] σ = (if (σ.1 x0).1 = 2 then if (σ.1 (σ.2.2.1 x0 0)).1 = 14 then if (x1 : Int) < (σ.1 (σ.2.2.1 x0 0)).2 then (if (σ.1 x0).1 = 2 then let s1 : zM := zi_new σ 1 0 4; if ((s1.1 σ.2.2.2.1).1 : Int) = 1 then (G 19 [.inr (.inr σ.2.2.2.1)] s1).bind fun q2 => if ((q2.2.1 (σ.2.2.1 x0 0)).1 = 14 ∧ (0 : Int) ≤ x1 ∧ x1 < (q2.2.1 (σ.2.2.1 x0 0)).2) ∧ ((q2.2.1 σ.2.2.2.1).1 : Int) = 1 then let s3 : zM := zi_wq q2.2 (σ.2.2.1 x0 0) x1 σ.2.2.2.1; K 25 [some (.inr (.inr x0)), some (.inl (zi_w (x1 + 1)))] [] s3 else none else none else none) else (some (0, σ)) else none else none) := rfl
theorem zk_25_25 {G : Nat → List zV → zM → zR} {n : Nat} {x0 x1 : Int} {σ : zM} : zi_run zt_25 G (n + 1) 25 [some (.inr (.inr x0)), some (.inl x1)] [] σ = ((fun (K : Nat → zL → List zV → zM → zR) => if (σ.1 x0).1 = 2 then if (σ.1 (σ.2.2.1 x0 0)).1 = 14 then if (x1 : Int) < (σ.1 (σ.2.2.1 x0 0)).2 then (if (σ.1 x0).1 = 2 then let s1 : zM := zi_new σ 1 0 4; if ((s1.1 σ.2.2.2.1).1 : Int) = 1 then (G 19 [.inr (.inr σ.2.2.2.1)] s1).bind fun q2 => if ((q2.2.1 (σ.2.2.1 x0 0)).1 = 14 ∧ (0 : Int) ≤ x1 ∧ x1 < (q2.2.1 (σ.2.2.1 x0 0)).2) ∧ ((q2.2.1 σ.2.2.2.1).1 : Int) = 1 then let s3 : zM := zi_wq q2.2 (σ.2.2.1 x0 0) x1 σ.2.2.2.1; K 25 [some (.inr (.inr x0)), some (.inl (zi_w (x1 + 1)))] [] s3 else none else none else none) else (some (0, σ)) else none else none) (zi_run zt_25 G n)) := zi_run_succ.trans ze_25_25
-- FoldedRows$History.forget()V
set_option maxRecDepth 20000 in
theorem ze_26_0 {G : Nat → List zV → zM → zR} {K : Nat → zL → List zV → zM → zR} {x0 : Int} {σ : zM} : zi_fr zt_26 G K 600 0 [some (.inr (.inr x0))] [] σ = (if (σ.1 x0).1 = 2 then let s1 : zM := zi_wr σ x0 1 0; if (s1.1 x0).1 = 2 then let s2 : zM := zi_wr s1 x0 2 0; some (0, s2) else none else none) := rfl
theorem zm_26 {d : Nat} {x0 : Int} {σ : zM} : zG (d + 1) 26 [.inr (.inr x0)] σ = ((fun (G : Nat → List zV → zM → zR) (K : Nat → zL → List zV → zM → zR) => if (σ.1 x0).1 = 2 then let s1 : zM := zi_wr σ x0 1 0; if (s1.1 x0).1 = 2 then let s2 : zM := zi_wr s1 x0 2 0; some (0, s2) else none else none) (zG d) (zi_run zt_26 (zG d) 19999)) := (zG_eq zt_26 rfl rfl rfl).trans ze_26_0
-- FoldedRows$History.remember(LFoldedRows$Frame;)V
set_option maxRecDepth 20000 in
theorem ze_27_0 {G : Nat → List zV → zM → zR} {K : Nat → zL → List zV → zM → zR} {x0 x1 : Int} {σ : zM} : zi_fr zt_27 G K 600 0 [some (.inr (.inr x0)), some (.inr (.inr x1))] [] σ = (if (σ.1 x0).1 = 2 then let s1 : zM := zi_wr σ x0 2 0; if (s1.1 x0).1 = 2 then if ((s1.2.1 x0 1) : Int) < 16 then (K 18 [some (.inr (.inr x0)), some (.inr (.inr x1))] [] s1) else (if ((s1.1 x0).1 : Int) = 2 then (G 31 [.inr (.inr x0)] s1).bind fun q2 => K 18 [some (.inr (.inr x0)), some (.inr (.inr x1))] [] q2.2 else none) else none else none) := rfl
theorem zm_27 {d : Nat} {x0 x1 : Int} {σ : zM} : zG (d + 1) 27 [.inr (.inr x0), .inr (.inr x1)] σ = ((fun (G : Nat → List zV → zM → zR) (K : Nat → zL → List zV → zM → zR) => if (σ.1 x0).1 = 2 then let s1 : zM := zi_wr σ x0 2 0; if (s1.1 x0).1 = 2 then if ((s1.2.1 x0 1) : Int) < 16 then (K 18 [some (.inr (.inr x0)), some (.inr (.inr x1))] [] s1) else (if ((s1.1 x0).1 : Int) = 2 then (G 31 [.inr (.inr x0)] s1).bind fun q2 => K 18 [some (.inr (.inr x0)), some (.inr (.inr x1))] [] q2.2 else none) else none else none) (zG d) (zi_run zt_27 (zG d) 19999)) := (zG_eq zt_27 rfl rfl rfl).trans ze_27_0
set_option maxRecDepth 20000 in
theorem ze_27_18 {G : Nat → List zV → zM → zR} {K : Nat → zL → List zV → zM → zR} {x0 x1 : Int} {σ : zM} : zi_fr zt_27 G K 600 18 [some (.inr (.inr x0)), some (.inr (.inr x1))] [] σ = (if (σ.1 x0).1 = 2 then if ((σ.2.1 x0 1) : Int) < 0 then (some (0, σ)) else (if (σ.1 x0).1 = 2 then if (σ.1 x0).1 = 2 then if (σ.1 (σ.2.2.1 x0 0)).1 = 14 then if ((σ.2.1 x0 1) : Int) < (σ.1 (σ.2.2.1 x0 0)).2 then (if (σ.1 x0).1 = 2 then if (σ.1 x0).1 = 2 then if (σ.1 (σ.2.2.1 x0 0)).1 = 14 ∧ (0 : Int) ≤ (σ.2.1 x0 1) ∧ (σ.2.1 x0 1) < (σ.1 (σ.2.2.1 x0 0)).2 then if (σ.2.2.1 (σ.2.2.1 x0 0) (σ.2.1 x0 1)) = 0 then (some (0, σ)) else (if (σ.1 x0).1 = 2 then if (σ.1 x0).1 = 2 then if (σ.1 (σ.2.2.1 x0 0)).1 = 14 ∧ (0 : Int) ≤ (σ.2.1 x0 1) ∧ (σ.2.1 x0 1) < (σ.1 (σ.2.2.1 x0 0)).2 then if ((σ.1 (σ.2.2.1 (σ.2.2.1 x0 0) (σ.2.1 x0 1))).1 : Int) = 1 then (G 21 [.inr (.inr (σ.2.2.1 (σ.2.2.1 x0 0) (σ.2.1 x0 1))), .inr (.inr x1)] σ).bind fun q1 => if (q1.2.1 x0).1 = 2 then if (q1.2.1 x0).1 = 2 then let s2 : zM := zi_wr q1.2 x0 1 (zi_w ((q1.2.2.1 x0 1) + 1)); some (0, s2) else none else none else none else none else none else none) else none else none else none) else (some (0, σ)) else none else none else none) else none) := rfl
theorem zk_27_18 {G : Nat → List zV → zM → zR} {n : Nat} {x0 x1 : Int} {σ : zM} : zi_run zt_27 G (n + 1) 18 [some (.inr (.inr x0)), some (.inr (.inr x1))] [] σ = ((fun (K : Nat → zL → List zV → zM → zR) => if (σ.1 x0).1 = 2 then if ((σ.2.1 x0 1) : Int) < 0 then (some (0, σ)) else (if (σ.1 x0).1 = 2 then if (σ.1 x0).1 = 2 then if (σ.1 (σ.2.2.1 x0 0)).1 = 14 then if ((σ.2.1 x0 1) : Int) < (σ.1 (σ.2.2.1 x0 0)).2 then (if (σ.1 x0).1 = 2 then if (σ.1 x0).1 = 2 then if (σ.1 (σ.2.2.1 x0 0)).1 = 14 ∧ (0 : Int) ≤ (σ.2.1 x0 1) ∧ (σ.2.1 x0 1) < (σ.1 (σ.2.2.1 x0 0)).2 then if (σ.2.2.1 (σ.2.2.1 x0 0) (σ.2.1 x0 1)) = 0 then (some (0, σ)) else (if (σ.1 x0).1 = 2 then if (σ.1 x0).1 = 2 then if (σ.1 (σ.2.2.1 x0 0)).1 = 14 ∧ (0 : Int) ≤ (σ.2.1 x0 1) ∧ (σ.2.1 x0 1) < (σ.1 (σ.2.2.1 x0 0)).2 then if ((σ.1 (σ.2.2.1 (σ.2.2.1 x0 0) (σ.2.1 x0 1))).1 : Int) = 1 then (G 21 [.inr (.inr (σ.2.2.1 (σ.2.2.1 x0 0) (σ.2.1 x0 1))), .inr (.inr x1)] σ).bind fun q1 => if (q1.2.1 x0).1 = 2 then if (q1.2.1 x0).1 = 2 then let s2 : zM := zi_wr q1.2 x0 1 (zi_w ((q1.2.2.1 x0 1) + 1)); some (0, s2) else none else none else none else none else none else none) else none else none else none) else (some (0, σ)) else none else none else none) else none) (zi_run zt_27 G n)) := zi_run_succ.trans ze_27_18
-- FoldedRows$History.takeBack(LFoldedRows$Frame;)LFoldedRows$Frame;
set_option maxRecDepth 20000 in
theorem ze_28_0 {G : Nat → List zV → zM → zR} {K : Nat → zL → List zV → zM → zR} {x0 x1 : Int} {σ : zM} : zi_fr zt_28 G K 600 0 [some (.inr (.inr x0)), some (.inr (.inr x1))] [] σ = (if (σ.1 x0).1 = 2 then if (0 : Int) < (σ.2.1 x0 1) then (if (σ.1 x0).1 = 2 then if (σ.1 x0).1 = 2 then let s1 : zM := zi_wr σ x0 1 (zi_w ((σ.2.1 x0 1) - 1)); if (s1.1 x0).1 = 2 then if (s1.1 x0).1 = 2 then let s2 : zM := zi_wr s1 x0 2 (zi_w ((s1.2.1 x0 2) + 1)); if (s2.1 x0).1 = 2 then if ((s2.1 x0).1 : Int) = 2 then (G 30 [.inr (.inr x0), .inl (s2.2.1 x0 1), .inr (.inr x1)] s2).bind fun q3 => some (q3.1, q3.2) else none else none else none else none else none else none) else (some (x1, σ)) else none) := rfl
theorem zm_28 {d : Nat} {x0 x1 : Int} {σ : zM} : zG (d + 1) 28 [.inr (.inr x0), .inr (.inr x1)] σ = ((fun (G : Nat → List zV → zM → zR) (K : Nat → zL → List zV → zM → zR) => if (σ.1 x0).1 = 2 then if (0 : Int) < (σ.2.1 x0 1) then (if (σ.1 x0).1 = 2 then if (σ.1 x0).1 = 2 then let s1 : zM := zi_wr σ x0 1 (zi_w ((σ.2.1 x0 1) - 1)); if (s1.1 x0).1 = 2 then if (s1.1 x0).1 = 2 then let s2 : zM := zi_wr s1 x0 2 (zi_w ((s1.2.1 x0 2) + 1)); if (s2.1 x0).1 = 2 then if ((s2.1 x0).1 : Int) = 2 then (G 30 [.inr (.inr x0), .inl (s2.2.1 x0 1), .inr (.inr x1)] s2).bind fun q3 => some (q3.1, q3.2) else none else none else none else none else none else none) else (some (x1, σ)) else none) (zG d) (zi_run zt_28 (zG d) 19999)) := (zG_eq zt_28 rfl rfl rfl).trans ze_28_0
-- FoldedRows$History.doAgain(LFoldedRows$Frame;)LFoldedRows$Frame;
set_option maxRecDepth 20000 in
theorem ze_29_0 {G : Nat → List zV → zM → zR} {K : Nat → zL → List zV → zM → zR} {x0 x1 : Int} {σ : zM} : zi_fr zt_29 G K 600 0 [some (.inr (.inr x0)), some (.inr (.inr x1)), none] [] σ = (if (σ.1 x0).1 = 2 then if (0 : Int) < (σ.2.1 x0 2) then (if (σ.1 x0).1 = 2 then if ((σ.1 x0).1 : Int) = 2 then (G 30 [.inr (.inr x0), .inl (σ.2.1 x0 1), .inr (.inr x1)] σ).bind fun q1 => if (q1.2.1 x0).1 = 2 then if (q1.2.1 x0).1 = 2 then let s2 : zM := zi_wr q1.2 x0 1 (zi_w ((q1.2.2.1 x0 1) + 1)); if (s2.1 x0).1 = 2 then if (s2.1 x0).1 = 2 then let s3 : zM := zi_wr s2 x0 2 (zi_w ((s2.2.1 x0 2) - 1)); some (q1.1, s3) else none else none else none else none else none else none) else (some (x1, σ)) else none) := rfl
theorem zm_29 {d : Nat} {x0 x1 : Int} {σ : zM} : zG (d + 1) 29 [.inr (.inr x0), .inr (.inr x1)] σ = ((fun (G : Nat → List zV → zM → zR) (K : Nat → zL → List zV → zM → zR) => if (σ.1 x0).1 = 2 then if (0 : Int) < (σ.2.1 x0 2) then (if (σ.1 x0).1 = 2 then if ((σ.1 x0).1 : Int) = 2 then (G 30 [.inr (.inr x0), .inl (σ.2.1 x0 1), .inr (.inr x1)] σ).bind fun q1 => if (q1.2.1 x0).1 = 2 then if (q1.2.1 x0).1 = 2 then let s2 : zM := zi_wr q1.2 x0 1 (zi_w ((q1.2.2.1 x0 1) + 1)); if (s2.1 x0).1 = 2 then if (s2.1 x0).1 = 2 then let s3 : zM := zi_wr s2 x0 2 (zi_w ((s2.2.1 x0 2) - 1)); some (q1.1, s3) else none else none else none else none else none else none) else (some (x1, σ)) else none) (zG d) (zi_run zt_29 (zG d) 19999)) := (zG_eq zt_29 rfl rfl rfl).trans ze_29_0
-- FoldedRows$History.exchange(ILFoldedRows$Frame;)LFoldedRows$Frame;
set_option maxRecDepth 20000 in
theorem ze_30_0 {G : Nat → List zV → zM → zR} {K : Nat → zL → List zV → zM → zR} {x0 x1 x2 : Int} {σ : zM} : zi_fr zt_30 G K 600 0 [some (.inr (.inr x0)), some (.inl x1), some (.inr (.inr x2)), none] [] σ = (if (x1 : Int) < 0 then (some (x2, σ)) else (if (σ.1 x0).1 = 2 then if (σ.1 (σ.2.2.1 x0 0)).1 = 14 then if (x1 : Int) < (σ.1 (σ.2.2.1 x0 0)).2 then (if (σ.1 x0).1 = 2 then if (σ.1 (σ.2.2.1 x0 0)).1 = 14 ∧ (0 : Int) ≤ x1 ∧ x1 < (σ.1 (σ.2.2.1 x0 0)).2 then if (σ.2.2.1 (σ.2.2.1 x0 0) x1) = 0 then (some (x2, σ)) else (if (σ.1 x0).1 = 2 then if (σ.1 (σ.2.2.1 x0 0)).1 = 14 ∧ (0 : Int) ≤ x1 ∧ x1 < (σ.1 (σ.2.2.1 x0 0)).2 then if (σ.1 x0).1 = 2 then if ((σ.1 (σ.2.2.1 x0 0)).1 = 14 ∧ (0 : Int) ≤ x1 ∧ x1 < (σ.1 (σ.2.2.1 x0 0)).2) ∧ ((σ.1 x2).1 : Int) = 1 then let s1 : zM := zi_wq σ (σ.2.2.1 x0 0) x1 x2; some ((σ.2.2.1 (σ.2.2.1 x0 0) x1), s1) else none else none else none else none) else none else none) else (some (x2, σ)) else none else none)) := rfl
theorem zm_30 {d : Nat} {x0 x1 x2 : Int} {σ : zM} : zG (d + 1) 30 [.inr (.inr x0), .inl x1, .inr (.inr x2)] σ = ((fun (G : Nat → List zV → zM → zR) (K : Nat → zL → List zV → zM → zR) => if (x1 : Int) < 0 then (some (x2, σ)) else (if (σ.1 x0).1 = 2 then if (σ.1 (σ.2.2.1 x0 0)).1 = 14 then if (x1 : Int) < (σ.1 (σ.2.2.1 x0 0)).2 then (if (σ.1 x0).1 = 2 then if (σ.1 (σ.2.2.1 x0 0)).1 = 14 ∧ (0 : Int) ≤ x1 ∧ x1 < (σ.1 (σ.2.2.1 x0 0)).2 then if (σ.2.2.1 (σ.2.2.1 x0 0) x1) = 0 then (some (x2, σ)) else (if (σ.1 x0).1 = 2 then if (σ.1 (σ.2.2.1 x0 0)).1 = 14 ∧ (0 : Int) ≤ x1 ∧ x1 < (σ.1 (σ.2.2.1 x0 0)).2 then if (σ.1 x0).1 = 2 then if ((σ.1 (σ.2.2.1 x0 0)).1 = 14 ∧ (0 : Int) ≤ x1 ∧ x1 < (σ.1 (σ.2.2.1 x0 0)).2) ∧ ((σ.1 x2).1 : Int) = 1 then let s1 : zM := zi_wq σ (σ.2.2.1 x0 0) x1 x2; some ((σ.2.2.1 (σ.2.2.1 x0 0) x1), s1) else none else none else none else none) else none else none) else (some (x2, σ)) else none else none)) (zG d) (zi_run zt_30 (zG d) 19999)) := (zG_eq zt_30 rfl rfl rfl).trans ze_30_0
-- FoldedRows$History.dropOldest()V
set_option maxRecDepth 20000 in
theorem ze_31_0 {G : Nat → List zV → zM → zR} {K : Nat → zL → List zV → zM → zR} {x0 : Int} {σ : zM} : zi_fr zt_31 G K 600 0 [some (.inr (.inr x0)), none, none] [] σ = (K 2 [some (.inr (.inr x0)), some (.inl 0), none] [] σ) := rfl
theorem zm_31 {d : Nat} {x0 : Int} {σ : zM} : zG (d + 1) 31 [.inr (.inr x0)] σ = ((fun (G : Nat → List zV → zM → zR) (K : Nat → zL → List zV → zM → zR) => K 2 [some (.inr (.inr x0)), some (.inl 0), none] [] σ) (zG d) (zi_run zt_31 (zG d) 19999)) := (zG_eq zt_31 rfl rfl rfl).trans ze_31_0
set_option maxRecDepth 20000 in
theorem ze_31_2 {G : Nat → List zV → zM → zR} {K : Nat → zL → List zV → zM → zR} {x0 x1 : Int} {σ : zM} : zi_fr zt_31 G K 600 2 [some (.inr (.inr x0)), some (.inl x1), none] [] σ = (if (σ.1 x0).1 = 2 then if (σ.1 (σ.2.2.1 x0 0)).1 = 14 then if ((zi_w (x1 + 1)) : Int) < (σ.1 (σ.2.2.1 x0 0)).2 then (if (σ.1 x0).1 = 2 then if (σ.1 (σ.2.2.1 x0 0)).1 = 14 ∧ (0 : Int) ≤ x1 ∧ x1 < (σ.1 (σ.2.2.1 x0 0)).2 then if (σ.1 x0).1 = 2 then if (σ.1 x0).1 = 2 then if (σ.1 (σ.2.2.1 x0 0)).1 = 14 ∧ (0 : Int) ≤ (zi_w (x1 + 1)) ∧ (zi_w (x1 + 1)) < (σ.1 (σ.2.2.1 x0 0)).2 then if ((σ.1 (σ.2.2.1 x0 0)).1 = 14 ∧ (0 : Int) ≤ x1 ∧ x1 < (σ.1 (σ.2.2.1 x0 0)).2) ∧ ((σ.1 (σ.2.2.1 (σ.2.2.1 x0 0) (zi_w (x1 + 1)))).1 : Int) = 1 then let s2 : zM := zi_wq σ (σ.2.2.1 x0 0) x1 (σ.2.2.1 (σ.2.2.1 x0 0) (zi_w (x1 + 1))); if (s2.1 x0).1 = 2 then if ((s2.1 (s2.2.2.1 x0 0)).1 = 14 ∧ (0 : Int) ≤ (zi_w (x1 + 1)) ∧ (zi_w (x1 + 1)) < (s2.1 (s2.2.2.1 x0 0)).2) ∧ ((s2.1 (σ.2.2.1 (σ.2.2.1 x0 0) x1)).1 : Int) = 1 then let s3 : zM := zi_wq s2 (s2.2.2.1 x0 0) (zi_w (x1 + 1)) (σ.2.2.1 (σ.2.2.1 x0 0) x1); K 2 [some (.inr (.inr x0)), some (.inl (zi_w (x1 + 1))), none] [] s3 else none else none else none else none else none else none else none else none) else (if (σ.1 x0).1 = 2 then if (σ.1 x0).1 = 2 then let s1 : zM := zi_wr σ x0 1 (zi_w ((σ.2.1 x0 1) - 1)); some (0, s1) else none else none) else none else none) := rfl
theorem zk_31_2 {G : Nat → List zV → zM → zR} {n : Nat} {x0 x1 : Int} {σ : zM} : zi_run zt_31 G (n + 1) 2 [some (.inr (.inr x0)), some (.inl x1), none] [] σ = ((fun (K : Nat → zL → List zV → zM → zR) => if (σ.1 x0).1 = 2 then if (σ.1 (σ.2.2.1 x0 0)).1 = 14 then if ((zi_w (x1 + 1)) : Int) < (σ.1 (σ.2.2.1 x0 0)).2 then (if (σ.1 x0).1 = 2 then if (σ.1 (σ.2.2.1 x0 0)).1 = 14 ∧ (0 : Int) ≤ x1 ∧ x1 < (σ.1 (σ.2.2.1 x0 0)).2 then if (σ.1 x0).1 = 2 then if (σ.1 x0).1 = 2 then if (σ.1 (σ.2.2.1 x0 0)).1 = 14 ∧ (0 : Int) ≤ (zi_w (x1 + 1)) ∧ (zi_w (x1 + 1)) < (σ.1 (σ.2.2.1 x0 0)).2 then if ((σ.1 (σ.2.2.1 x0 0)).1 = 14 ∧ (0 : Int) ≤ x1 ∧ x1 < (σ.1 (σ.2.2.1 x0 0)).2) ∧ ((σ.1 (σ.2.2.1 (σ.2.2.1 x0 0) (zi_w (x1 + 1)))).1 : Int) = 1 then let s2 : zM := zi_wq σ (σ.2.2.1 x0 0) x1 (σ.2.2.1 (σ.2.2.1 x0 0) (zi_w (x1 + 1))); if (s2.1 x0).1 = 2 then if ((s2.1 (s2.2.2.1 x0 0)).1 = 14 ∧ (0 : Int) ≤ (zi_w (x1 + 1)) ∧ (zi_w (x1 + 1)) < (s2.1 (s2.2.2.1 x0 0)).2) ∧ ((s2.1 (σ.2.2.1 (σ.2.2.1 x0 0) x1)).1 : Int) = 1 then let s3 : zM := zi_wq s2 (s2.2.2.1 x0 0) (zi_w (x1 + 1)) (σ.2.2.1 (σ.2.2.1 x0 0) x1); K 2 [some (.inr (.inr x0)), some (.inl (zi_w (x1 + 1))), none] [] s3 else none else none else none else none else none else none else none else none) else (if (σ.1 x0).1 = 2 then if (σ.1 x0).1 = 2 then let s1 : zM := zi_wr σ x0 1 (zi_w ((σ.2.1 x0 1) - 1)); some (0, s1) else none else none) else none else none) (zi_run zt_31 G n)) := zi_run_succ.trans ze_31_2
-- FoldedRows$Image.<init>()V
set_option maxRecDepth 20000 in
theorem ze_32_0 {G : Nat → List zV → zM → zR} {K : Nat → zL → List zV → zM → zR} {x0 : Int} {σ : zM} : zi_fr zt_32 G K 600 0 [some (.inr (.inr x0))] [] σ = (if ((σ.1 x0).1 : Int) = 3 then (G 1000 [.inr (.inr x0)] σ).bind fun q1 => let s2 : zM := zi_new q1.2 1 0 4; if ((s2.1 q1.2.2.2.2.1).1 : Int) = 1 then (G 19 [.inr (.inr q1.2.2.2.2.1)] s2).bind fun q3 => if (q3.2.1 x0).1 = 3 then let s4 : zM := zi_wq q3.2 x0 0 q1.2.2.2.2.1; let s5 : zM := zi_new s4 7 0 4; if ((s5.1 s4.2.2.2.1).1 : Int) = 7 then (G 83 [.inr (.inr s4.2.2.2.1)] s5).bind fun q6 => if (q6.2.1 x0).1 = 3 then let s7 : zM := zi_wq q6.2 x0 1 s4.2.2.2.1; if (s7.1 x0).1 = 3 ∧ ((0 : Int) = 0 ∨ (0 : Int) = 1) then let s8 : zM := zi_wr s7 x0 2 0; some (0, s8) else none else none else none else none else none else none) := rfl
theorem zm_32 {d : Nat} {x0 : Int} {σ : zM} : zG (d + 1) 32 [.inr (.inr x0)] σ = ((fun (G : Nat → List zV → zM → zR) (K : Nat → zL → List zV → zM → zR) => if ((σ.1 x0).1 : Int) = 3 then (G 1000 [.inr (.inr x0)] σ).bind fun q1 => let s2 : zM := zi_new q1.2 1 0 4; if ((s2.1 q1.2.2.2.2.1).1 : Int) = 1 then (G 19 [.inr (.inr q1.2.2.2.2.1)] s2).bind fun q3 => if (q3.2.1 x0).1 = 3 then let s4 : zM := zi_wq q3.2 x0 0 q1.2.2.2.2.1; let s5 : zM := zi_new s4 7 0 4; if ((s5.1 s4.2.2.2.1).1 : Int) = 7 then (G 83 [.inr (.inr s4.2.2.2.1)] s5).bind fun q6 => if (q6.2.1 x0).1 = 3 then let s7 : zM := zi_wq q6.2 x0 1 s4.2.2.2.1; if (s7.1 x0).1 = 3 ∧ ((0 : Int) = 0 ∨ (0 : Int) = 1) then let s8 : zM := zi_wr s7 x0 2 0; some (0, s8) else none else none else none else none else none else none) (zG d) (zi_run zt_32 (zG d) 19999)) := (zG_eq zt_32 rfl rfl rfl).trans ze_32_0
-- FoldedRows$LaidLine.<init>()V
set_option maxRecDepth 20000 in
theorem ze_33_0 {G : Nat → List zV → zM → zR} {K : Nat → zL → List zV → zM → zR} {x0 : Int} {σ : zM} : zi_fr zt_33 G K 600 0 [some (.inr (.inr x0))] [] σ = (if ((σ.1 x0).1 : Int) = 4 then (G 1000 [.inr (.inr x0)] σ).bind fun q1 => if (q1.2.1 x0).1 = 4 then let s2 : zM := zi_wr q1.2 x0 0 0; if (s2.1 x0).1 = 4 then let s3 : zM := zi_wr s2 x0 1 1; if (s3.1 x0).1 = 4 then let s4 : zM := zi_wr s3 x0 2 0; if (0 : Int) ≤ 41 ∧ (41 : Int) ≤ 100000 then let s5 : zM := zi_new s4 12 41 (Int.toNat 41); if (s5.1 x0).1 = 4 then let s6 : zM := zi_wq s5 x0 3 s4.2.2.2.1; if (0 : Int) ≤ 41 ∧ (41 : Int) ≤ 100000 then let s7 : zM := zi_new s6 12 41 (Int.toNat 41); if (s7.1 x0).1 = 4 then let s8 : zM := zi_wq s7 x0 4 s6.2.2.2.1; if (0 : Int) ≤ 41 ∧ (41 : Int) ≤ 100000 then let s9 : zM := zi_new s8 12 41 (Int.toNat 41); if (s9.1 x0).1 = 4 then let s10 : zM := zi_wq s9 x0 5 s8.2.2.2.1; if (0 : Int) ≤ 41 ∧ (41 : Int) ≤ 100000 then let s11 : zM := zi_new s10 12 41 (Int.toNat 41); if (s11.1 x0).1 = 4 then let s12 : zM := zi_wq s11 x0 6 s10.2.2.2.1; if (0 : Int) ≤ 41 ∧ (41 : Int) ≤ 100000 then let s13 : zM := zi_new s12 12 41 (Int.toNat 41); if (s13.1 x0).1 = 4 then let s14 : zM := zi_wq s13 x0 7 s12.2.2.2.1; if (0 : Int) ≤ 41 ∧ (41 : Int) ≤ 100000 then let s15 : zM := zi_new s14 12 41 (Int.toNat 41); if (s15.1 x0).1 = 4 then let s16 : zM := zi_wq s15 x0 8 s14.2.2.2.1; if (0 : Int) ≤ 42 ∧ (42 : Int) ≤ 100000 then let s17 : zM := zi_new s16 12 42 (Int.toNat 42); if (s17.1 x0).1 = 4 then let s18 : zM := zi_wq s17 x0 9 s16.2.2.2.1; if (0 : Int) ≤ 41 ∧ (41 : Int) ≤ 100000 then let s19 : zM := zi_new s18 12 41 (Int.toNat 41); if (s19.1 x0).1 = 4 then let s20 : zM := zi_wq s19 x0 10 s18.2.2.2.1; some (0, s20) else none else none else none else none else none else none else none else none else none else none else none else none else none else none else none else none else none else none else none else none) := rfl
theorem zm_33 {d : Nat} {x0 : Int} {σ : zM} : zG (d + 1) 33 [.inr (.inr x0)] σ = ((fun (G : Nat → List zV → zM → zR) (K : Nat → zL → List zV → zM → zR) => if ((σ.1 x0).1 : Int) = 4 then (G 1000 [.inr (.inr x0)] σ).bind fun q1 => if (q1.2.1 x0).1 = 4 then let s2 : zM := zi_wr q1.2 x0 0 0; if (s2.1 x0).1 = 4 then let s3 : zM := zi_wr s2 x0 1 1; if (s3.1 x0).1 = 4 then let s4 : zM := zi_wr s3 x0 2 0; if (0 : Int) ≤ 41 ∧ (41 : Int) ≤ 100000 then let s5 : zM := zi_new s4 12 41 (Int.toNat 41); if (s5.1 x0).1 = 4 then let s6 : zM := zi_wq s5 x0 3 s4.2.2.2.1; if (0 : Int) ≤ 41 ∧ (41 : Int) ≤ 100000 then let s7 : zM := zi_new s6 12 41 (Int.toNat 41); if (s7.1 x0).1 = 4 then let s8 : zM := zi_wq s7 x0 4 s6.2.2.2.1; if (0 : Int) ≤ 41 ∧ (41 : Int) ≤ 100000 then let s9 : zM := zi_new s8 12 41 (Int.toNat 41); if (s9.1 x0).1 = 4 then let s10 : zM := zi_wq s9 x0 5 s8.2.2.2.1; if (0 : Int) ≤ 41 ∧ (41 : Int) ≤ 100000 then let s11 : zM := zi_new s10 12 41 (Int.toNat 41); if (s11.1 x0).1 = 4 then let s12 : zM := zi_wq s11 x0 6 s10.2.2.2.1; if (0 : Int) ≤ 41 ∧ (41 : Int) ≤ 100000 then let s13 : zM := zi_new s12 12 41 (Int.toNat 41); if (s13.1 x0).1 = 4 then let s14 : zM := zi_wq s13 x0 7 s12.2.2.2.1; if (0 : Int) ≤ 41 ∧ (41 : Int) ≤ 100000 then let s15 : zM := zi_new s14 12 41 (Int.toNat 41); if (s15.1 x0).1 = 4 then let s16 : zM := zi_wq s15 x0 8 s14.2.2.2.1; if (0 : Int) ≤ 42 ∧ (42 : Int) ≤ 100000 then let s17 : zM := zi_new s16 12 42 (Int.toNat 42); if (s17.1 x0).1 = 4 then let s18 : zM := zi_wq s17 x0 9 s16.2.2.2.1; if (0 : Int) ≤ 41 ∧ (41 : Int) ≤ 100000 then let s19 : zM := zi_new s18 12 41 (Int.toNat 41); if (s19.1 x0).1 = 4 then let s20 : zM := zi_wq s19 x0 10 s18.2.2.2.1; some (0, s20) else none else none else none else none else none else none else none else none else none else none else none else none else none else none else none else none else none else none else none else none) (zG d) (zi_run zt_33 (zG d) 19999)) := (zG_eq zt_33 rfl rfl rfl).trans ze_33_0
-- FoldedRows$LaidLine.arrange(LFoldedRows$Lines;ILFoldedRows$Settings;)V
set_option maxRecDepth 20000 in
theorem ze_34_0 {G : Nat → List zV → zM → zR} {K : Nat → zL → List zV → zM → zR} {x0 x1 x2 x3 : Int} {σ : zM} : zi_fr zt_34 G K 600 0 [some (.inr (.inr x0)), some (.inr (.inr x1)), some (.inl x2), some (.inr (.inr x3)), none, none] [] σ = (if ((σ.1 x1).1 : Int) = 5 then (G 58 [.inr (.inr x1), .inl x2] σ).bind fun q1 => if (q1.2.1 x0).1 = 4 then let s2 : zM := zi_wr q1.2 x0 0 q1.1; if (s2.1 x3).1 = 7 then if ((s2.2.1 x3 2) : Int) = 0 then (if (s2.1 x0).1 = 4 then let s7 : zM := zi_wr s2 x0 2 0; if ((s7.1 x0).1 : Int) = 4 then (G 51 [.inr (.inr x0), .inr (.inr x1), .inl x2] s7).bind fun q8 => K 57 [some (.inr (.inr x0)), some (.inr (.inr x1)), some (.inl x2), some (.inr (.inr x3)), some (.inl 0), some (.inl 0)] [] q8.2 else none else none) else (if ((s2.1 x0).1 : Int) = 4 then (G 50 [.inr (.inr x0), .inr (.inr x1), .inl x2, .inr (.inr x3)] s2).bind fun q3 => if (q3.2.1 x3).1 = 7 then if (q3.2.1 x3).1 = 7 then if (2 : Int) = 0 then none else (G 1002 [.inl (zi_w (q3.1 + (q3.2.2.1 x3 3))), .inl (zi_div (q3.2.2.1 x3 0) 2)] q3.2).bind fun q4 => if (q4.2.1 x0).1 = 4 then let s5 : zM := zi_wr q4.2 x0 2 q4.1; if ((s5.1 x0).1 : Int) = 4 then (G 51 [.inr (.inr x0), .inr (.inr x1), .inl x2] s5).bind fun q6 => K 57 [some (.inr (.inr x0)), some (.inr (.inr x1)), some (.inl x2), some (.inr (.inr x3)), some (.inl 0), some (.inl 0)] [] q6.2 else none else none else none else none else none) else none else none else none) := rfl
theorem zm_34 {d : Nat} {x0 x1 x2 x3 : Int} {σ : zM} : zG (d + 1) 34 [.inr (.inr x0), .inr (.inr x1), .inl x2, .inr (.inr x3)] σ = ((fun (G : Nat → List zV → zM → zR) (K : Nat → zL → List zV → zM → zR) => if ((σ.1 x1).1 : Int) = 5 then (G 58 [.inr (.inr x1), .inl x2] σ).bind fun q1 => if (q1.2.1 x0).1 = 4 then let s2 : zM := zi_wr q1.2 x0 0 q1.1; if (s2.1 x3).1 = 7 then if ((s2.2.1 x3 2) : Int) = 0 then (if (s2.1 x0).1 = 4 then let s7 : zM := zi_wr s2 x0 2 0; if ((s7.1 x0).1 : Int) = 4 then (G 51 [.inr (.inr x0), .inr (.inr x1), .inl x2] s7).bind fun q8 => K 57 [some (.inr (.inr x0)), some (.inr (.inr x1)), some (.inl x2), some (.inr (.inr x3)), some (.inl 0), some (.inl 0)] [] q8.2 else none else none) else (if ((s2.1 x0).1 : Int) = 4 then (G 50 [.inr (.inr x0), .inr (.inr x1), .inl x2, .inr (.inr x3)] s2).bind fun q3 => if (q3.2.1 x3).1 = 7 then if (q3.2.1 x3).1 = 7 then if (2 : Int) = 0 then none else (G 1002 [.inl (zi_w (q3.1 + (q3.2.2.1 x3 3))), .inl (zi_div (q3.2.2.1 x3 0) 2)] q3.2).bind fun q4 => if (q4.2.1 x0).1 = 4 then let s5 : zM := zi_wr q4.2 x0 2 q4.1; if ((s5.1 x0).1 : Int) = 4 then (G 51 [.inr (.inr x0), .inr (.inr x1), .inl x2] s5).bind fun q6 => K 57 [some (.inr (.inr x0)), some (.inr (.inr x1)), some (.inl x2), some (.inr (.inr x3)), some (.inl 0), some (.inl 0)] [] q6.2 else none else none else none else none else none) else none else none else none) (zG d) (zi_run zt_34 (zG d) 19999)) := (zG_eq zt_34 rfl rfl rfl).trans ze_34_0
set_option maxRecDepth 20000 in
theorem ze_34_57 {G : Nat → List zV → zM → zR} {K : Nat → zL → List zV → zM → zR} {x0 x1 x2 x3 x4 x5 : Int} {σ : zM} : zi_fr zt_34 G K 600 57 [some (.inr (.inr x0)), some (.inr (.inr x1)), some (.inl x2), some (.inr (.inr x3)), some (.inl x4), some (.inl x5)] [] σ = (if (40 : Int) < x5 then (K 114 [some (.inr (.inr x0)), some (.inr (.inr x1)), some (.inl x2), none, none, none] [] σ) else (if (x5 : Int) = 0 then (if (σ.1 x0).1 = 4 then (G 73 [.inr (.inr (σ.2.2.1 x0 9)), .inl x5, .inl x4] σ).bind fun q1 => if ((q1.2.1 x0).1 : Int) = 4 then (G 53 [.inr (.inr x0), .inr (.inr x1), .inl x2, .inl x5, .inr (.inr x3)] q1.2).bind fun q2 => if (q2.2.1 x0).1 = 4 then let s3 : zM := zi_wr q2.2 x0 1 (zi_w (x5 + 1)); K 57 [some (.inr (.inr x0)), some (.inr (.inr x1)), some (.inl x2), some (.inr (.inr x3)), some (.inl q2.1), some (.inl (zi_w (x5 + 1)))] [] s3 else none else none else none) else (if (σ.1 x0).1 = 4 then if (x4 : Int) < (σ.2.1 x0 0) then (if (σ.1 x0).1 = 4 then (G 73 [.inr (.inr (σ.2.2.1 x0 9)), .inl x5, .inl x4] σ).bind fun q4 => if ((q4.2.1 x0).1 : Int) = 4 then (G 53 [.inr (.inr x0), .inr (.inr x1), .inl x2, .inl x5, .inr (.inr x3)] q4.2).bind fun q5 => if (q5.2.1 x0).1 = 4 then let s6 : zM := zi_wr q5.2 x0 1 (zi_w (x5 + 1)); K 57 [some (.inr (.inr x0)), some (.inr (.inr x1)), some (.inl x2), some (.inr (.inr x3)), some (.inl q5.1), some (.inl (zi_w (x5 + 1)))] [] s6 else none else none else none) else (K 114 [some (.inr (.inr x0)), some (.inr (.inr x1)), some (.inl x2), none, none, none] [] σ) else none))) := rfl
theorem zk_34_57 {G : Nat → List zV → zM → zR} {n : Nat} {x0 x1 x2 x3 x4 x5 : Int} {σ : zM} : zi_run zt_34 G (n + 1) 57 [some (.inr (.inr x0)), some (.inr (.inr x1)), some (.inl x2), some (.inr (.inr x3)), some (.inl x4), some (.inl x5)] [] σ = ((fun (K : Nat → zL → List zV → zM → zR) => if (40 : Int) < x5 then (K 114 [some (.inr (.inr x0)), some (.inr (.inr x1)), some (.inl x2), none, none, none] [] σ) else (if (x5 : Int) = 0 then (if (σ.1 x0).1 = 4 then (G 73 [.inr (.inr (σ.2.2.1 x0 9)), .inl x5, .inl x4] σ).bind fun q1 => if ((q1.2.1 x0).1 : Int) = 4 then (G 53 [.inr (.inr x0), .inr (.inr x1), .inl x2, .inl x5, .inr (.inr x3)] q1.2).bind fun q2 => if (q2.2.1 x0).1 = 4 then let s3 : zM := zi_wr q2.2 x0 1 (zi_w (x5 + 1)); K 57 [some (.inr (.inr x0)), some (.inr (.inr x1)), some (.inl x2), some (.inr (.inr x3)), some (.inl q2.1), some (.inl (zi_w (x5 + 1)))] [] s3 else none else none else none) else (if (σ.1 x0).1 = 4 then if (x4 : Int) < (σ.2.1 x0 0) then (if (σ.1 x0).1 = 4 then (G 73 [.inr (.inr (σ.2.2.1 x0 9)), .inl x5, .inl x4] σ).bind fun q4 => if ((q4.2.1 x0).1 : Int) = 4 then (G 53 [.inr (.inr x0), .inr (.inr x1), .inl x2, .inl x5, .inr (.inr x3)] q4.2).bind fun q5 => if (q5.2.1 x0).1 = 4 then let s6 : zM := zi_wr q5.2 x0 1 (zi_w (x5 + 1)); K 57 [some (.inr (.inr x0)), some (.inr (.inr x1)), some (.inl x2), some (.inr (.inr x3)), some (.inl q5.1), some (.inl (zi_w (x5 + 1)))] [] s6 else none else none else none) else (K 114 [some (.inr (.inr x0)), some (.inr (.inr x1)), some (.inl x2), none, none, none] [] σ) else none))) (zi_run zt_34 G n)) := zi_run_succ.trans ze_34_57
set_option maxRecDepth 20000 in
theorem ze_34_114 {G : Nat → List zV → zM → zR} {K : Nat → zL → List zV → zM → zR} {x0 x1 x2 : Int} {σ : zM} : zi_fr zt_34 G K 600 114 [some (.inr (.inr x0)), some (.inr (.inr x1)), some (.inl x2), none, none, none] [] σ = (if (σ.1 x0).1 = 4 then if (σ.1 x0).1 = 4 then if (σ.1 x0).1 = 4 then (G 73 [.inr (.inr (σ.2.2.1 x0 9)), .inl (σ.2.1 x0 1), .inl (σ.2.1 x0 0)] σ).bind fun q1 => if (q1.2.1 x0).1 = 4 then if (q1.2.1 x0).1 = 4 then if (q1.2.1 x0).1 = 4 then (G 73 [.inr (.inr (q1.2.2.2.1 x0 3)), .inl (q1.2.2.1 x0 0), .inl (zi_w ((q1.2.2.1 x0 1) - 1))] q1.2).bind fun q2 => if (q2.2.1 x0).1 = 4 then if (q2.2.1 x0).1 = 4 then if (q2.2.1 x0).1 = 4 then if ((q2.2.1 x0).1 : Int) = 4 then (G 44 [.inr (.inr x0), .inl (zi_w ((q2.2.2.1 x0 1) - 1))] q2.2).bind fun q3 => (G 73 [.inr (.inr (q2.2.2.2.1 x0 4)), .inl (q2.2.2.1 x0 0), .inl q3.1] q3.2).bind fun q4 => if ((q4.2.1 x0).1 : Int) = 4 then (G 52 [.inr (.inr x0), .inr (.inr x1), .inl x2] q4.2).bind fun q5 => some (0, q5.2) else none else none else none else none else none else none else none else none else none else none else none) := rfl
theorem zk_34_114 {G : Nat → List zV → zM → zR} {n : Nat} {x0 x1 x2 : Int} {σ : zM} : zi_run zt_34 G (n + 1) 114 [some (.inr (.inr x0)), some (.inr (.inr x1)), some (.inl x2), none, none, none] [] σ = ((fun (K : Nat → zL → List zV → zM → zR) => if (σ.1 x0).1 = 4 then if (σ.1 x0).1 = 4 then if (σ.1 x0).1 = 4 then (G 73 [.inr (.inr (σ.2.2.1 x0 9)), .inl (σ.2.1 x0 1), .inl (σ.2.1 x0 0)] σ).bind fun q1 => if (q1.2.1 x0).1 = 4 then if (q1.2.1 x0).1 = 4 then if (q1.2.1 x0).1 = 4 then (G 73 [.inr (.inr (q1.2.2.2.1 x0 3)), .inl (q1.2.2.1 x0 0), .inl (zi_w ((q1.2.2.1 x0 1) - 1))] q1.2).bind fun q2 => if (q2.2.1 x0).1 = 4 then if (q2.2.1 x0).1 = 4 then if (q2.2.1 x0).1 = 4 then if ((q2.2.1 x0).1 : Int) = 4 then (G 44 [.inr (.inr x0), .inl (zi_w ((q2.2.2.1 x0 1) - 1))] q2.2).bind fun q3 => (G 73 [.inr (.inr (q2.2.2.2.1 x0 4)), .inl (q2.2.2.1 x0 0), .inl q3.1] q3.2).bind fun q4 => if ((q4.2.1 x0).1 : Int) = 4 then (G 52 [.inr (.inr x0), .inr (.inr x1), .inl x2] q4.2).bind fun q5 => some (0, q5.2) else none else none else none else none else none else none else none else none else none else none else none) (zi_run zt_34 G n)) := zi_run_succ.trans ze_34_114
-- FoldedRows$LaidLine.stopCount()I
set_option maxRecDepth 20000 in
theorem ze_35_0 {G : Nat → List zV → zM → zR} {K : Nat → zL → List zV → zM → zR} {x0 : Int} {σ : zM} : zi_fr zt_35 G K 600 0 [some (.inr (.inr x0))] [] σ = (if (σ.1 x0).1 = 4 then if (σ.1 x0).1 = 4 then (G 75 [.inr (.inr (σ.2.2.1 x0 7)), .inl (zi_w ((σ.2.1 x0 0) + 1))] σ).bind fun q1 => some (q1.1, q1.2) else none else none) := rfl
theorem zm_35 {d : Nat} {x0 : Int} {σ : zM} : zG (d + 1) 35 [.inr (.inr x0)] σ = ((fun (G : Nat → List zV → zM → zR) (K : Nat → zL → List zV → zM → zR) => if (σ.1 x0).1 = 4 then if (σ.1 x0).1 = 4 then (G 75 [.inr (.inr (σ.2.2.1 x0 7)), .inl (zi_w ((σ.2.1 x0 0) + 1))] σ).bind fun q1 => some (q1.1, q1.2) else none else none) (zG d) (zi_run zt_35 (zG d) 19999)) := (zG_eq zt_35 rfl rfl rfl).trans ze_35_0
-- FoldedRows$LaidLine.breakCount()I
set_option maxRecDepth 20000 in
theorem ze_36_0 {G : Nat → List zV → zM → zR} {K : Nat → zL → List zV → zM → zR} {x0 : Int} {σ : zM} : zi_fr zt_36 G K 600 0 [some (.inr (.inr x0))] [] σ = (if (σ.1 x0).1 = 4 then if (σ.1 x0).1 = 4 then (G 75 [.inr (.inr (σ.2.2.1 x0 8)), .inl (zi_w ((σ.2.1 x0 0) + 1))] σ).bind fun q1 => some (q1.1, q1.2) else none else none) := rfl
theorem zm_36 {d : Nat} {x0 : Int} {σ : zM} : zG (d + 1) 36 [.inr (.inr x0)] σ = ((fun (G : Nat → List zV → zM → zR) (K : Nat → zL → List zV → zM → zR) => if (σ.1 x0).1 = 4 then if (σ.1 x0).1 = 4 then (G 75 [.inr (.inr (σ.2.2.1 x0 8)), .inl (zi_w ((σ.2.1 x0 0) + 1))] σ).bind fun q1 => some (q1.1, q1.2) else none else none) (zG d) (zi_run zt_36 (zG d) 19999)) := (zG_eq zt_36 rfl rfl rfl).trans ze_36_0
-- FoldedRows$LaidLine.hangCount()I
set_option maxRecDepth 20000 in
theorem ze_37_0 {G : Nat → List zV → zM → zR} {K : Nat → zL → List zV → zM → zR} {x0 : Int} {σ : zM} : zi_fr zt_37 G K 600 0 [some (.inr (.inr x0))] [] σ = (if (σ.1 x0).1 = 4 then if (σ.1 x0).1 = 4 then (G 75 [.inr (.inr (σ.2.2.1 x0 6)), .inl (σ.2.1 x0 0)] σ).bind fun q1 => some (q1.1, q1.2) else none else none) := rfl
theorem zm_37 {d : Nat} {x0 : Int} {σ : zM} : zG (d + 1) 37 [.inr (.inr x0)] σ = ((fun (G : Nat → List zV → zM → zR) (K : Nat → zL → List zV → zM → zR) => if (σ.1 x0).1 = 4 then if (σ.1 x0).1 = 4 then (G 75 [.inr (.inr (σ.2.2.1 x0 6)), .inl (σ.2.1 x0 0)] σ).bind fun q1 => some (q1.1, q1.2) else none else none) (zG d) (zi_run zt_37 (zG d) 19999)) := (zG_eq zt_37 rfl rfl rfl).trans ze_37_0
-- FoldedRows$LaidLine.isStop(I)Z
set_option maxRecDepth 20000 in
theorem ze_38_0 {G : Nat → List zV → zM → zR} {K : Nat → zL → List zV → zM → zR} {x0 x1 : Int} {σ : zM} : zi_fr zt_38 G K 600 0 [some (.inr (.inr x0)), some (.inl x1)] [] σ = (if (σ.1 x0).1 = 4 then (G 72 [.inr (.inr (σ.2.2.1 x0 7)), .inl x1] σ).bind fun q1 => if (q1.1 : Int) = 1 then (if (1 : Int) = 0 ∨ (1 : Int) = 1 then some (1, q1.2) else none) else (if (0 : Int) = 0 ∨ (0 : Int) = 1 then some (0, q1.2) else none) else none) := rfl
theorem zm_38 {d : Nat} {x0 x1 : Int} {σ : zM} : zG (d + 1) 38 [.inr (.inr x0), .inl x1] σ = ((fun (G : Nat → List zV → zM → zR) (K : Nat → zL → List zV → zM → zR) => if (σ.1 x0).1 = 4 then (G 72 [.inr (.inr (σ.2.2.1 x0 7)), .inl x1] σ).bind fun q1 => if (q1.1 : Int) = 1 then (if (1 : Int) = 0 ∨ (1 : Int) = 1 then some (1, q1.2) else none) else (if (0 : Int) = 0 ∨ (0 : Int) = 1 then some (0, q1.2) else none) else none) (zG d) (zi_run zt_38 (zG d) 19999)) := (zG_eq zt_38 rfl rfl rfl).trans ze_38_0
-- FoldedRows$LaidLine.isBreak(I)Z
set_option maxRecDepth 20000 in
theorem ze_39_0 {G : Nat → List zV → zM → zR} {K : Nat → zL → List zV → zM → zR} {x0 x1 : Int} {σ : zM} : zi_fr zt_39 G K 600 0 [some (.inr (.inr x0)), some (.inl x1)] [] σ = (if (σ.1 x0).1 = 4 then (G 72 [.inr (.inr (σ.2.2.1 x0 8)), .inl x1] σ).bind fun q1 => if (q1.1 : Int) = 1 then (if (1 : Int) = 0 ∨ (1 : Int) = 1 then some (1, q1.2) else none) else (if (0 : Int) = 0 ∨ (0 : Int) = 1 then some (0, q1.2) else none) else none) := rfl
theorem zm_39 {d : Nat} {x0 x1 : Int} {σ : zM} : zG (d + 1) 39 [.inr (.inr x0), .inl x1] σ = ((fun (G : Nat → List zV → zM → zR) (K : Nat → zL → List zV → zM → zR) => if (σ.1 x0).1 = 4 then (G 72 [.inr (.inr (σ.2.2.1 x0 8)), .inl x1] σ).bind fun q1 => if (q1.1 : Int) = 1 then (if (1 : Int) = 0 ∨ (1 : Int) = 1 then some (1, q1.2) else none) else (if (0 : Int) = 0 ∨ (0 : Int) = 1 then some (0, q1.2) else none) else none) (zG d) (zi_run zt_39 (zG d) 19999)) := (zG_eq zt_39 rfl rfl rfl).trans ze_39_0
-- FoldedRows$LaidLine.rowOf(I)I
set_option maxRecDepth 20000 in
theorem ze_40_0 {G : Nat → List zV → zM → zR} {K : Nat → zL → List zV → zM → zR} {x0 x1 : Int} {σ : zM} : zi_fr zt_40 G K 600 0 [some (.inr (.inr x0)), some (.inl x1)] [] σ = (if (σ.1 x0).1 = 4 then (G 72 [.inr (.inr (σ.2.2.1 x0 3)), .inl x1] σ).bind fun q1 => some (q1.1, q1.2) else none) := rfl
theorem zm_40 {d : Nat} {x0 x1 : Int} {σ : zM} : zG (d + 1) 40 [.inr (.inr x0), .inl x1] σ = ((fun (G : Nat → List zV → zM → zR) (K : Nat → zL → List zV → zM → zR) => if (σ.1 x0).1 = 4 then (G 72 [.inr (.inr (σ.2.2.1 x0 3)), .inl x1] σ).bind fun q1 => some (q1.1, q1.2) else none) (zG d) (zi_run zt_40 (zG d) 19999)) := (zG_eq zt_40 rfl rfl rfl).trans ze_40_0
-- FoldedRows$LaidLine.columnOf(I)I
set_option maxRecDepth 20000 in
theorem ze_41_0 {G : Nat → List zV → zM → zR} {K : Nat → zL → List zV → zM → zR} {x0 x1 : Int} {σ : zM} : zi_fr zt_41 G K 600 0 [some (.inr (.inr x0)), some (.inl x1)] [] σ = (if (σ.1 x0).1 = 4 then (G 72 [.inr (.inr (σ.2.2.1 x0 4)), .inl x1] σ).bind fun q1 => some (q1.1, q1.2) else none) := rfl
theorem zm_41 {d : Nat} {x0 x1 : Int} {σ : zM} : zG (d + 1) 41 [.inr (.inr x0), .inl x1] σ = ((fun (G : Nat → List zV → zM → zR) (K : Nat → zL → List zV → zM → zR) => if (σ.1 x0).1 = 4 then (G 72 [.inr (.inr (σ.2.2.1 x0 4)), .inl x1] σ).bind fun q1 => some (q1.1, q1.2) else none) (zG d) (zi_run zt_41 (zG d) 19999)) := (zG_eq zt_41 rfl rfl rfl).trans ze_41_0
-- FoldedRows$LaidLine.firstPlace(I)I
set_option maxRecDepth 20000 in
theorem ze_42_0 {G : Nat → List zV → zM → zR} {K : Nat → zL → List zV → zM → zR} {x0 x1 : Int} {σ : zM} : zi_fr zt_42 G K 600 0 [some (.inr (.inr x0)), some (.inl x1)] [] σ = (if (σ.1 x0).1 = 4 then (G 72 [.inr (.inr (σ.2.2.1 x0 9)), .inl x1] σ).bind fun q1 => some (q1.1, q1.2) else none) := rfl
theorem zm_42 {d : Nat} {x0 x1 : Int} {σ : zM} : zG (d + 1) 42 [.inr (.inr x0), .inl x1] σ = ((fun (G : Nat → List zV → zM → zR) (K : Nat → zL → List zV → zM → zR) => if (σ.1 x0).1 = 4 then (G 72 [.inr (.inr (σ.2.2.1 x0 9)), .inl x1] σ).bind fun q1 => some (q1.1, q1.2) else none) (zG d) (zi_run zt_42 (zG d) 19999)) := (zG_eq zt_42 rfl rfl rfl).trans ze_42_0
-- FoldedRows$LaidLine.firstColumn(I)I
set_option maxRecDepth 20000 in
theorem ze_43_0 {G : Nat → List zV → zM → zR} {K : Nat → zL → List zV → zM → zR} {x0 x1 : Int} {σ : zM} : zi_fr zt_43 G K 600 0 [some (.inr (.inr x0)), some (.inl x1)] [] σ = (if (x1 : Int) = 0 then (some (0, σ)) else (if (σ.1 x0).1 = 4 then some ((σ.2.1 x0 2), σ) else none)) := rfl
theorem zm_43 {d : Nat} {x0 x1 : Int} {σ : zM} : zG (d + 1) 43 [.inr (.inr x0), .inl x1] σ = ((fun (G : Nat → List zV → zM → zR) (K : Nat → zL → List zV → zM → zR) => if (x1 : Int) = 0 then (some (0, σ)) else (if (σ.1 x0).1 = 4 then some ((σ.2.1 x0 2), σ) else none)) (zG d) (zi_run zt_43 (zG d) 19999)) := (zG_eq zt_43 rfl rfl rfl).trans ze_43_0
-- FoldedRows$LaidLine.columnBehind(I)I
set_option maxRecDepth 20000 in
theorem ze_44_0 {G : Nat → List zV → zM → zR} {K : Nat → zL → List zV → zM → zR} {x0 x1 : Int} {σ : zM} : zi_fr zt_44 G K 600 0 [some (.inr (.inr x0)), some (.inl x1)] [] σ = (if (σ.1 x0).1 = 4 then (G 72 [.inr (.inr (σ.2.2.1 x0 10)), .inl x1] σ).bind fun q1 => some (q1.1, q1.2) else none) := rfl
theorem zm_44 {d : Nat} {x0 x1 : Int} {σ : zM} : zG (d + 1) 44 [.inr (.inr x0), .inl x1] σ = ((fun (G : Nat → List zV → zM → zR) (K : Nat → zL → List zV → zM → zR) => if (σ.1 x0).1 = 4 then (G 72 [.inr (.inr (σ.2.2.1 x0 10)), .inl x1] σ).bind fun q1 => some (q1.1, q1.2) else none) (zG d) (zi_run zt_44 (zG d) 19999)) := (zG_eq zt_44 rfl rfl rfl).trans ze_44_0
-- FoldedRows$LaidLine.placeCovering(II)I
set_option maxRecDepth 20000 in
theorem ze_45_0 {G : Nat → List zV → zM → zR} {K : Nat → zL → List zV → zM → zR} {x0 x1 x2 : Int} {σ : zM} : zi_fr zt_45 G K 600 0 [some (.inr (.inr x0)), some (.inl x1), some (.inl x2), none, none, none] [] σ = (if ((σ.1 x0).1 : Int) = 4 then (G 42 [.inr (.inr x0), .inl (zi_w (x1 + 1))] σ).bind fun q1 => if ((q1.2.1 x0).1 : Int) = 4 then (G 42 [.inr (.inr x0), .inl x1] q1.2).bind fun q2 => K 15 [some (.inr (.inr x0)), none, some (.inl x2), some (.inl q1.1), some (.inl q2.1), none] [] q2.2 else none else none) := rfl
theorem zm_45 {d : Nat} {x0 x1 x2 : Int} {σ : zM} : zG (d + 1) 45 [.inr (.inr x0), .inl x1, .inl x2] σ = ((fun (G : Nat → List zV → zM → zR) (K : Nat → zL → List zV → zM → zR) => if ((σ.1 x0).1 : Int) = 4 then (G 42 [.inr (.inr x0), .inl (zi_w (x1 + 1))] σ).bind fun q1 => if ((q1.2.1 x0).1 : Int) = 4 then (G 42 [.inr (.inr x0), .inl x1] q1.2).bind fun q2 => K 15 [some (.inr (.inr x0)), none, some (.inl x2), some (.inl q1.1), some (.inl q2.1), none] [] q2.2 else none else none) (zG d) (zi_run zt_45 (zG d) 19999)) := (zG_eq zt_45 rfl rfl rfl).trans ze_45_0
set_option maxRecDepth 20000 in
theorem ze_45_15 {G : Nat → List zV → zM → zR} {K : Nat → zL → List zV → zM → zR} {x0 x2 x3 x4 : Int} {σ : zM} : zi_fr zt_45 G K 600 15 [some (.inr (.inr x0)), none, some (.inl x2), some (.inl x3), some (.inl x4), none] [] σ = (if (x4 : Int) < x3 then (if ((σ.1 x0).1 : Int) = 4 then (G 41 [.inr (.inr x0), .inl x4] σ).bind fun q1 => if (x2 : Int) < q1.1 then (K 15 [some (.inr (.inr x0)), none, some (.inl x2), some (.inl x3), some (.inl (zi_w (x4 + 1))), none] [] q1.2) else (if (q1.2.1 x0).1 = 4 then (G 72 [.inr (.inr (q1.2.2.2.1 x0 5)), .inl x4] q1.2).bind fun q2 => if (x2 : Int) < (zi_w (q1.1 + q2.1)) then (some (x4, q2.2)) else (K 15 [some (.inr (.inr x0)), none, some (.inl x2), some (.inl x3), some (.inl (zi_w (x4 + 1))), none] [] q2.2) else none) else none) else (some ((-1), σ))) := rfl
theorem zk_45_15 {G : Nat → List zV → zM → zR} {n : Nat} {x0 x2 x3 x4 : Int} {σ : zM} : zi_run zt_45 G (n + 1) 15 [some (.inr (.inr x0)), none, some (.inl x2), some (.inl x3), some (.inl x4), none] [] σ = ((fun (K : Nat → zL → List zV → zM → zR) => if (x4 : Int) < x3 then (if ((σ.1 x0).1 : Int) = 4 then (G 41 [.inr (.inr x0), .inl x4] σ).bind fun q1 => if (x2 : Int) < q1.1 then (K 15 [some (.inr (.inr x0)), none, some (.inl x2), some (.inl x3), some (.inl (zi_w (x4 + 1))), none] [] q1.2) else (if (q1.2.1 x0).1 = 4 then (G 72 [.inr (.inr (q1.2.2.2.1 x0 5)), .inl x4] q1.2).bind fun q2 => if (x2 : Int) < (zi_w (q1.1 + q2.1)) then (some (x4, q2.2)) else (K 15 [some (.inr (.inr x0)), none, some (.inl x2), some (.inl x3), some (.inl (zi_w (x4 + 1))), none] [] q2.2) else none) else none) else (some ((-1), σ))) (zi_run zt_45 G n)) := zi_run_succ.trans ze_45_15
-- FoldedRows$LaidLine.placeNear(II)I
set_option maxRecDepth 20000 in
theorem ze_46_0 {G : Nat → List zV → zM → zR} {K : Nat → zL → List zV → zM → zR} {x0 x1 x2 : Int} {σ : zM} : zi_fr zt_46 G K 600 0 [some (.inr (.inr x0)), some (.inl x1), some (.inl x2), none, none] [] σ = (if ((σ.1 x0).1 : Int) = 4 then (G 42 [.inr (.inr x0), .inl x1] σ).bind fun q1 => K 11 [some (.inr (.inr x0)), some (.inl x1), some (.inl x2), some (.inl q1.1), some (.inl (zi_w (q1.1 + 1)))] [] q1.2 else none) := rfl
theorem zm_46 {d : Nat} {x0 x1 x2 : Int} {σ : zM} : zG (d + 1) 46 [.inr (.inr x0), .inl x1, .inl x2] σ = ((fun (G : Nat → List zV → zM → zR) (K : Nat → zL → List zV → zM → zR) => if ((σ.1 x0).1 : Int) = 4 then (G 42 [.inr (.inr x0), .inl x1] σ).bind fun q1 => K 11 [some (.inr (.inr x0)), some (.inl x1), some (.inl x2), some (.inl q1.1), some (.inl (zi_w (q1.1 + 1)))] [] q1.2 else none) (zG d) (zi_run zt_46 (zG d) 19999)) := (zG_eq zt_46 rfl rfl rfl).trans ze_46_0
set_option maxRecDepth 20000 in
theorem ze_46_11 {G : Nat → List zV → zM → zR} {K : Nat → zL → List zV → zM → zR} {x0 x1 x2 x3 x4 : Int} {σ : zM} : zi_fr zt_46 G K 600 11 [some (.inr (.inr x0)), some (.inl x1), some (.inl x2), some (.inl x3), some (.inl x4)] [] σ = (if (σ.1 x0).1 = 4 then if ((σ.2.1 x0 0) : Int) < x4 then (some (x3, σ)) else (if ((σ.1 x0).1 : Int) = 4 then (G 40 [.inr (.inr x0), .inl x4] σ).bind fun q1 => if (q1.1 : Int) = x1 then (if ((q1.2.1 x0).1 : Int) = 4 then (G 38 [.inr (.inr x0), .inl x4] q1.2).bind fun q2 => if (q2.1 : Int) = 0 then (K 11 [some (.inr (.inr x0)), some (.inl x1), some (.inl x2), some (.inl x3), some (.inl (zi_w (x4 + 1)))] [] q2.2) else (if ((q2.2.1 x0).1 : Int) = 4 then (G 41 [.inr (.inr x0), .inl x4] q2.2).bind fun q3 => if (x2 : Int) < q3.1 then (K 11 [some (.inr (.inr x0)), some (.inl x1), some (.inl x2), some (.inl x3), some (.inl (zi_w (x4 + 1)))] [] q3.2) else (K 11 [some (.inr (.inr x0)), some (.inl x1), some (.inl x2), some (.inl x4), some (.inl (zi_w (x4 + 1)))] [] q3.2) else none) else none) else (K 11 [some (.inr (.inr x0)), some (.inl x1), some (.inl x2), some (.inl x3), some (.inl (zi_w (x4 + 1)))] [] q1.2) else none) else none) := rfl
theorem zk_46_11 {G : Nat → List zV → zM → zR} {n : Nat} {x0 x1 x2 x3 x4 : Int} {σ : zM} : zi_run zt_46 G (n + 1) 11 [some (.inr (.inr x0)), some (.inl x1), some (.inl x2), some (.inl x3), some (.inl x4)] [] σ = ((fun (K : Nat → zL → List zV → zM → zR) => if (σ.1 x0).1 = 4 then if ((σ.2.1 x0 0) : Int) < x4 then (some (x3, σ)) else (if ((σ.1 x0).1 : Int) = 4 then (G 40 [.inr (.inr x0), .inl x4] σ).bind fun q1 => if (q1.1 : Int) = x1 then (if ((q1.2.1 x0).1 : Int) = 4 then (G 38 [.inr (.inr x0), .inl x4] q1.2).bind fun q2 => if (q2.1 : Int) = 0 then (K 11 [some (.inr (.inr x0)), some (.inl x1), some (.inl x2), some (.inl x3), some (.inl (zi_w (x4 + 1)))] [] q2.2) else (if ((q2.2.1 x0).1 : Int) = 4 then (G 41 [.inr (.inr x0), .inl x4] q2.2).bind fun q3 => if (x2 : Int) < q3.1 then (K 11 [some (.inr (.inr x0)), some (.inl x1), some (.inl x2), some (.inl x3), some (.inl (zi_w (x4 + 1)))] [] q3.2) else (K 11 [some (.inr (.inr x0)), some (.inl x1), some (.inl x2), some (.inl x4), some (.inl (zi_w (x4 + 1)))] [] q3.2) else none) else none) else (K 11 [some (.inr (.inr x0)), some (.inl x1), some (.inl x2), some (.inl x3), some (.inl (zi_w (x4 + 1)))] [] q1.2) else none) else none) (zi_run zt_46 G n)) := zi_run_succ.trans ze_46_11
-- FoldedRows$LaidLine.stopFrom(I)I
set_option maxRecDepth 20000 in
theorem ze_47_0 {G : Nat → List zV → zM → zR} {K : Nat → zL → List zV → zM → zR} {x0 x1 : Int} {σ : zM} : zi_fr zt_47 G K 600 0 [some (.inr (.inr x0)), some (.inl x1), none] [] σ = (K 2 [some (.inr (.inr x0)), none, some (.inl x1)] [] σ) := rfl
theorem zm_47 {d : Nat} {x0 x1 : Int} {σ : zM} : zG (d + 1) 47 [.inr (.inr x0), .inl x1] σ = ((fun (G : Nat → List zV → zM → zR) (K : Nat → zL → List zV → zM → zR) => K 2 [some (.inr (.inr x0)), none, some (.inl x1)] [] σ) (zG d) (zi_run zt_47 (zG d) 19999)) := (zG_eq zt_47 rfl rfl rfl).trans ze_47_0
set_option maxRecDepth 20000 in
theorem ze_47_2 {G : Nat → List zV → zM → zR} {K : Nat → zL → List zV → zM → zR} {x0 x2 : Int} {σ : zM} : zi_fr zt_47 G K 600 2 [some (.inr (.inr x0)), none, some (.inl x2)] [] σ = (if (σ.1 x0).1 = 4 then if (x2 : Int) < (σ.2.1 x0 0) then (if ((σ.1 x0).1 : Int) = 4 then (G 38 [.inr (.inr x0), .inl x2] σ).bind fun q1 => if (q1.1 : Int) = 0 then (K 2 [some (.inr (.inr x0)), none, some (.inl (zi_w (x2 + 1)))] [] q1.2) else (some (x2, q1.2)) else none) else (if (σ.1 x0).1 = 4 then some ((σ.2.1 x0 0), σ) else none) else none) := rfl
theorem zk_47_2 {G : Nat → List zV → zM → zR} {n : Nat} {x0 x2 : Int} {σ : zM} : zi_run zt_47 G (n + 1) 2 [some (.inr (.inr x0)), none, some (.inl x2)] [] σ = ((fun (K : Nat → zL → List zV → zM → zR) => if (σ.1 x0).1 = 4 then if (x2 : Int) < (σ.2.1 x0 0) then (if ((σ.1 x0).1 : Int) = 4 then (G 38 [.inr (.inr x0), .inl x2] σ).bind fun q1 => if (q1.1 : Int) = 0 then (K 2 [some (.inr (.inr x0)), none, some (.inl (zi_w (x2 + 1)))] [] q1.2) else (some (x2, q1.2)) else none) else (if (σ.1 x0).1 = 4 then some ((σ.2.1 x0 0), σ) else none) else none) (zi_run zt_47 G n)) := zi_run_succ.trans ze_47_2
-- FoldedRows$LaidLine.stopBehind(I)I
set_option maxRecDepth 20000 in
theorem ze_48_0 {G : Nat → List zV → zM → zR} {K : Nat → zL → List zV → zM → zR} {x0 x1 : Int} {σ : zM} : zi_fr zt_48 G K 600 0 [some (.inr (.inr x0)), some (.inl x1)] [] σ = (if (σ.1 x0).1 = 4 then if (x1 : Int) < (σ.2.1 x0 0) then (if ((σ.1 x0).1 : Int) = 4 then (G 47 [.inr (.inr x0), .inl (zi_w (x1 + 1))] σ).bind fun q1 => some (q1.1, q1.2) else none) else (some ((-1), σ)) else none) := rfl
theorem zm_48 {d : Nat} {x0 x1 : Int} {σ : zM} : zG (d + 1) 48 [.inr (.inr x0), .inl x1] σ = ((fun (G : Nat → List zV → zM → zR) (K : Nat → zL → List zV → zM → zR) => if (σ.1 x0).1 = 4 then if (x1 : Int) < (σ.2.1 x0 0) then (if ((σ.1 x0).1 : Int) = 4 then (G 47 [.inr (.inr x0), .inl (zi_w (x1 + 1))] σ).bind fun q1 => some (q1.1, q1.2) else none) else (some ((-1), σ)) else none) (zG d) (zi_run zt_48 (zG d) 19999)) := (zG_eq zt_48 rfl rfl rfl).trans ze_48_0
-- FoldedRows$LaidLine.stopAhead(I)I
set_option maxRecDepth 20000 in
theorem ze_49_0 {G : Nat → List zV → zM → zR} {K : Nat → zL → List zV → zM → zR} {x0 x1 : Int} {σ : zM} : zi_fr zt_49 G K 600 0 [some (.inr (.inr x0)), some (.inl x1), none] [] σ = (K 4 [some (.inr (.inr x0)), none, some (.inl (zi_w (x1 - 1)))] [] σ) := rfl
theorem zm_49 {d : Nat} {x0 x1 : Int} {σ : zM} : zG (d + 1) 49 [.inr (.inr x0), .inl x1] σ = ((fun (G : Nat → List zV → zM → zR) (K : Nat → zL → List zV → zM → zR) => K 4 [some (.inr (.inr x0)), none, some (.inl (zi_w (x1 - 1)))] [] σ) (zG d) (zi_run zt_49 (zG d) 19999)) := (zG_eq zt_49 rfl rfl rfl).trans ze_49_0
set_option maxRecDepth 20000 in
theorem ze_49_4 {G : Nat → List zV → zM → zR} {K : Nat → zL → List zV → zM → zR} {x0 x2 : Int} {σ : zM} : zi_fr zt_49 G K 600 4 [some (.inr (.inr x0)), none, some (.inl x2)] [] σ = (if (x2 : Int) < 0 then (some ((-1), σ)) else (if ((σ.1 x0).1 : Int) = 4 then (G 38 [.inr (.inr x0), .inl x2] σ).bind fun q1 => if (q1.1 : Int) = 0 then (K 4 [some (.inr (.inr x0)), none, some (.inl (zi_w (x2 + (-1))))] [] q1.2) else (some (x2, q1.2)) else none)) := rfl
theorem zk_49_4 {G : Nat → List zV → zM → zR} {n : Nat} {x0 x2 : Int} {σ : zM} : zi_run zt_49 G (n + 1) 4 [some (.inr (.inr x0)), none, some (.inl x2)] [] σ = ((fun (K : Nat → zL → List zV → zM → zR) => if (x2 : Int) < 0 then (some ((-1), σ)) else (if ((σ.1 x0).1 : Int) = 4 then (G 38 [.inr (.inr x0), .inl x2] σ).bind fun q1 => if (q1.1 : Int) = 0 then (K 4 [some (.inr (.inr x0)), none, some (.inl (zi_w (x2 + (-1))))] [] q1.2) else (some (x2, q1.2)) else none)) (zi_run zt_49 G n)) := zi_run_succ.trans ze_49_4
-- FoldedRows$LaidLine.leadingCells(LFoldedRows$Lines;ILFoldedRows$Settings;)I
set_option maxRecDepth 20000 in
theorem ze_50_0 {G : Nat → List zV → zM → zR} {K : Nat → zL → List zV → zM → zR} {x0 x1 x2 x3 : Int} {σ : zM} : zi_fr zt_50 G K 600 0 [some (.inr (.inr x0)), some (.inr (.inr x1)), some (.inl x2), some (.inr (.inr x3)), none, none] [] σ = (K 6 [some (.inr (.inr x0)), some (.inr (.inr x1)), some (.inl x2), some (.inr (.inr x3)), some (.inl 0), some (.inl 0)] [] σ) := rfl
theorem zm_50 {d : Nat} {x0 x1 x2 x3 : Int} {σ : zM} : zG (d + 1) 50 [.inr (.inr x0), .inr (.inr x1), .inl x2, .inr (.inr x3)] σ = ((fun (G : Nat → List zV → zM → zR) (K : Nat → zL → List zV → zM → zR) => K 6 [some (.inr (.inr x0)), some (.inr (.inr x1)), some (.inl x2), some (.inr (.inr x3)), some (.inl 0), some (.inl 0)] [] σ) (zG d) (zi_run zt_50 (zG d) 19999)) := (zG_eq zt_50 rfl rfl rfl).trans ze_50_0
set_option maxRecDepth 20000 in
theorem ze_50_6 {G : Nat → List zV → zM → zR} {K : Nat → zL → List zV → zM → zR} {x0 x1 x2 x3 x4 x5 : Int} {σ : zM} : zi_fr zt_50 G K 600 6 [some (.inr (.inr x0)), some (.inr (.inr x1)), some (.inl x2), some (.inr (.inr x3)), some (.inl x4), some (.inl x5)] [] σ = (if (σ.1 x0).1 = 4 then if (x5 : Int) < (σ.2.1 x0 0) then (if ((σ.1 x1).1 : Int) = 5 then (G 60 [.inr (.inr x1), .inl x2, .inl x5] σ).bind fun q1 => (G 135 [.inl q1.1] q1.2).bind fun q2 => if (q2.1 : Int) = 0 then (some (x4, q2.2)) else (if ((q2.2.1 x1).1 : Int) = 5 then (G 60 [.inr (.inr x1), .inl x2, .inl x5] q2.2).bind fun q3 => if (q3.1 : Int) = 9 then (if ((q3.2.1 x3).1 : Int) = 7 then (G 87 [.inr (.inr x3), .inl x4] q3.2).bind fun q4 => K 6 [some (.inr (.inr x0)), some (.inr (.inr x1)), some (.inl x2), some (.inr (.inr x3)), some (.inl (zi_w (x4 + q4.1))), some (.inl (zi_w (x5 + 1)))] [] q4.2 else none) else (K 6 [some (.inr (.inr x0)), some (.inr (.inr x1)), some (.inl x2), some (.inr (.inr x3)), some (.inl (zi_w (x4 + 1))), some (.inl (zi_w (x5 + 1)))] [] q3.2) else none) else none) else (some (x4, σ)) else none) := rfl
theorem zk_50_6 {G : Nat → List zV → zM → zR} {n : Nat} {x0 x1 x2 x3 x4 x5 : Int} {σ : zM} : zi_run zt_50 G (n + 1) 6 [some (.inr (.inr x0)), some (.inr (.inr x1)), some (.inl x2), some (.inr (.inr x3)), some (.inl x4), some (.inl x5)] [] σ = ((fun (K : Nat → zL → List zV → zM → zR) => if (σ.1 x0).1 = 4 then if (x5 : Int) < (σ.2.1 x0 0) then (if ((σ.1 x1).1 : Int) = 5 then (G 60 [.inr (.inr x1), .inl x2, .inl x5] σ).bind fun q1 => (G 135 [.inl q1.1] q1.2).bind fun q2 => if (q2.1 : Int) = 0 then (some (x4, q2.2)) else (if ((q2.2.1 x1).1 : Int) = 5 then (G 60 [.inr (.inr x1), .inl x2, .inl x5] q2.2).bind fun q3 => if (q3.1 : Int) = 9 then (if ((q3.2.1 x3).1 : Int) = 7 then (G 87 [.inr (.inr x3), .inl x4] q3.2).bind fun q4 => K 6 [some (.inr (.inr x0)), some (.inr (.inr x1)), some (.inl x2), some (.inr (.inr x3)), some (.inl (zi_w (x4 + q4.1))), some (.inl (zi_w (x5 + 1)))] [] q4.2 else none) else (K 6 [some (.inr (.inr x0)), some (.inr (.inr x1)), some (.inl x2), some (.inr (.inr x3)), some (.inl (zi_w (x4 + 1))), some (.inl (zi_w (x5 + 1)))] [] q3.2) else none) else none) else (some (x4, σ)) else none) (zi_run zt_50 G n)) := zi_run_succ.trans ze_50_6
-- FoldedRows$LaidLine.findBreaks(LFoldedRows$Lines;I)V
set_option maxRecDepth 20000 in
theorem ze_51_0 {G : Nat → List zV → zM → zR} {K : Nat → zL → List zV → zM → zR} {x0 x1 x2 : Int} {σ : zM} : zi_fr zt_51 G K 600 0 [some (.inr (.inr x0)), some (.inr (.inr x1)), some (.inl x2), none, none, none, none] [] σ = (K 6 [some (.inr (.inr x0)), some (.inr (.inr x1)), some (.inl x2), some (.inl 126), some (.inl 0), none, none] [] σ) := rfl
theorem zm_51 {d : Nat} {x0 x1 x2 : Int} {σ : zM} : zG (d + 1) 51 [.inr (.inr x0), .inr (.inr x1), .inl x2] σ = ((fun (G : Nat → List zV → zM → zR) (K : Nat → zL → List zV → zM → zR) => K 6 [some (.inr (.inr x0)), some (.inr (.inr x1)), some (.inl x2), some (.inl 126), some (.inl 0), none, none] [] σ) (zG d) (zi_run zt_51 (zG d) 19999)) := (zG_eq zt_51 rfl rfl rfl).trans ze_51_0
set_option maxRecDepth 20000 in
theorem ze_51_6 {G : Nat → List zV → zM → zR} {K : Nat → zL → List zV → zM → zR} {x0 x1 x2 x3 x4 : Int} {σ : zM} : zi_fr zt_51 G K 600 6 [some (.inr (.inr x0)), some (.inr (.inr x1)), some (.inl x2), some (.inl x3), some (.inl x4), none, none] [] σ = (if (σ.1 x0).1 = 4 then if ((σ.2.1 x0 0) : Int) < x4 then (some (0, σ)) else (if (σ.1 x0).1 = 4 then if (x4 : Int) < (σ.2.1 x0 0) then (if ((σ.1 x1).1 : Int) = 5 then (G 60 [.inr (.inr x1), .inl x2, .inl x4] σ).bind fun q1 => K 36 [some (.inr (.inr x0)), some (.inr (.inr x1)), some (.inl x2), some (.inl x3), some (.inl x4), none, none] [.inl q1.1] q1.2 else none) else (K 36 [some (.inr (.inr x0)), some (.inr (.inr x1)), some (.inl x2), some (.inl x3), some (.inl x4), none, none] [.inl 126] σ) else none) else none) := rfl
theorem zk_51_6 {G : Nat → List zV → zM → zR} {n : Nat} {x0 x1 x2 x3 x4 : Int} {σ : zM} : zi_run zt_51 G (n + 1) 6 [some (.inr (.inr x0)), some (.inr (.inr x1)), some (.inl x2), some (.inl x3), some (.inl x4), none, none] [] σ = ((fun (K : Nat → zL → List zV → zM → zR) => if (σ.1 x0).1 = 4 then if ((σ.2.1 x0 0) : Int) < x4 then (some (0, σ)) else (if (σ.1 x0).1 = 4 then if (x4 : Int) < (σ.2.1 x0 0) then (if ((σ.1 x1).1 : Int) = 5 then (G 60 [.inr (.inr x1), .inl x2, .inl x4] σ).bind fun q1 => K 36 [some (.inr (.inr x0)), some (.inr (.inr x1)), some (.inl x2), some (.inl x3), some (.inl x4), none, none] [.inl q1.1] q1.2 else none) else (K 36 [some (.inr (.inr x0)), some (.inr (.inr x1)), some (.inl x2), some (.inl x3), some (.inl x4), none, none] [.inl 126] σ) else none) else none) (zi_run zt_51 G n)) := zi_run_succ.trans ze_51_6
set_option maxRecDepth 20000 in
theorem ze_51_36 {G : Nat → List zV → zM → zR} {K : Nat → zL → List zV → zM → zR} {x0 x1 x2 x3 x4 y0 : Int} {σ : zM} : zi_fr zt_51 G K 600 36 [some (.inr (.inr x0)), some (.inr (.inr x1)), some (.inl x2), some (.inl x3), some (.inl x4), none, none] [.inl y0] σ = (if (0 : Int) < x4 then (if (y0 : Int) = 126 then (K 70 [some (.inr (.inr x0)), some (.inr (.inr x1)), some (.inl x2), some (.inl x3), some (.inl x4), some (.inl y0), none] [.inl 0] σ) else ((G 134 [.inl y0] σ).bind fun q1 => if (q1.1 : Int) = 0 then ((G 137 [.inl x3] q1.2).bind fun q2 => if (q2.1 : Int) = 0 then (K 70 [some (.inr (.inr x0)), some (.inr (.inr x1)), some (.inl x2), some (.inl x3), some (.inl x4), some (.inl y0), none] [.inl 0] q2.2) else (K 70 [some (.inr (.inr x0)), some (.inr (.inr x1)), some (.inl x2), some (.inl x3), some (.inl x4), some (.inl y0), none] [.inl 1] q2.2)) else (K 70 [some (.inr (.inr x0)), some (.inr (.inr x1)), some (.inl x2), some (.inl x3), some (.inl x4), some (.inl y0), none] [.inl 1] q1.2))) else (K 70 [some (.inr (.inr x0)), some (.inr (.inr x1)), some (.inl x2), some (.inl x3), some (.inl x4), some (.inl y0), none] [.inl 0] σ)) := rfl
theorem zk_51_36 {G : Nat → List zV → zM → zR} {n : Nat} {x0 x1 x2 x3 x4 y0 : Int} {σ : zM} : zi_run zt_51 G (n + 1) 36 [some (.inr (.inr x0)), some (.inr (.inr x1)), some (.inl x2), some (.inl x3), some (.inl x4), none, none] [.inl y0] σ = ((fun (K : Nat → zL → List zV → zM → zR) => if (0 : Int) < x4 then (if (y0 : Int) = 126 then (K 70 [some (.inr (.inr x0)), some (.inr (.inr x1)), some (.inl x2), some (.inl x3), some (.inl x4), some (.inl y0), none] [.inl 0] σ) else ((G 134 [.inl y0] σ).bind fun q1 => if (q1.1 : Int) = 0 then ((G 137 [.inl x3] q1.2).bind fun q2 => if (q2.1 : Int) = 0 then (K 70 [some (.inr (.inr x0)), some (.inr (.inr x1)), some (.inl x2), some (.inl x3), some (.inl x4), some (.inl y0), none] [.inl 0] q2.2) else (K 70 [some (.inr (.inr x0)), some (.inr (.inr x1)), some (.inl x2), some (.inl x3), some (.inl x4), some (.inl y0), none] [.inl 1] q2.2)) else (K 70 [some (.inr (.inr x0)), some (.inr (.inr x1)), some (.inl x2), some (.inl x3), some (.inl x4), some (.inl y0), none] [.inl 1] q1.2))) else (K 70 [some (.inr (.inr x0)), some (.inr (.inr x1)), some (.inl x2), some (.inl x3), some (.inl x4), some (.inl y0), none] [.inl 0] σ)) (zi_run zt_51 G n)) := zi_run_succ.trans ze_51_36
set_option maxRecDepth 20000 in
theorem ze_51_70 {G : Nat → List zV → zM → zR} {K : Nat → zL → List zV → zM → zR} {x0 x1 x2 x3 x4 x5 y0 : Int} {σ : zM} : zi_fr zt_51 G K 600 70 [some (.inr (.inr x0)), some (.inr (.inr x1)), some (.inl x2), some (.inl x3), some (.inl x4), some (.inl x5), none] [.inl y0] σ = (if (σ.1 x0).1 = 4 then if (y0 : Int) = 0 then ((G 73 [.inr (.inr (σ.2.2.1 x0 8)), .inl x4, .inl 0] σ).bind fun q1 => if (x5 : Int) = 126 then (K 6 [some (.inr (.inr x0)), some (.inr (.inr x1)), some (.inl x2), some (.inl x3), some (.inl (zi_w (x4 + 1))), none, none] [] q1.2) else (K 6 [some (.inr (.inr x0)), some (.inr (.inr x1)), some (.inl x2), some (.inl x5), some (.inl (zi_w (x4 + 1))), none, none] [] q1.2)) else ((G 73 [.inr (.inr (σ.2.2.1 x0 8)), .inl x4, .inl 1] σ).bind fun q2 => if (x5 : Int) = 126 then (K 6 [some (.inr (.inr x0)), some (.inr (.inr x1)), some (.inl x2), some (.inl x3), some (.inl (zi_w (x4 + 1))), none, none] [] q2.2) else (K 6 [some (.inr (.inr x0)), some (.inr (.inr x1)), some (.inl x2), some (.inl x5), some (.inl (zi_w (x4 + 1))), none, none] [] q2.2)) else none) := rfl
theorem zk_51_70 {G : Nat → List zV → zM → zR} {n : Nat} {x0 x1 x2 x3 x4 x5 y0 : Int} {σ : zM} : zi_run zt_51 G (n + 1) 70 [some (.inr (.inr x0)), some (.inr (.inr x1)), some (.inl x2), some (.inl x3), some (.inl x4), some (.inl x5), none] [.inl y0] σ = ((fun (K : Nat → zL → List zV → zM → zR) => if (σ.1 x0).1 = 4 then if (y0 : Int) = 0 then ((G 73 [.inr (.inr (σ.2.2.1 x0 8)), .inl x4, .inl 0] σ).bind fun q1 => if (x5 : Int) = 126 then (K 6 [some (.inr (.inr x0)), some (.inr (.inr x1)), some (.inl x2), some (.inl x3), some (.inl (zi_w (x4 + 1))), none, none] [] q1.2) else (K 6 [some (.inr (.inr x0)), some (.inr (.inr x1)), some (.inl x2), some (.inl x5), some (.inl (zi_w (x4 + 1))), none, none] [] q1.2)) else ((G 73 [.inr (.inr (σ.2.2.1 x0 8)), .inl x4, .inl 1] σ).bind fun q2 => if (x5 : Int) = 126 then (K 6 [some (.inr (.inr x0)), some (.inr (.inr x1)), some (.inl x2), some (.inl x3), some (.inl (zi_w (x4 + 1))), none, none] [] q2.2) else (K 6 [some (.inr (.inr x0)), some (.inr (.inr x1)), some (.inl x2), some (.inl x5), some (.inl (zi_w (x4 + 1))), none, none] [] q2.2)) else none) (zi_run zt_51 G n)) := zi_run_succ.trans ze_51_70
-- FoldedRows$LaidLine.findStops(LFoldedRows$Lines;I)V
set_option maxRecDepth 20000 in
theorem ze_52_0 {G : Nat → List zV → zM → zR} {K : Nat → zL → List zV → zM → zR} {x0 x1 x2 : Int} {σ : zM} : zi_fr zt_52 G K 600 0 [some (.inr (.inr x0)), some (.inr (.inr x1)), some (.inl x2), none, none, none] [] σ = (K 2 [some (.inr (.inr x0)), some (.inr (.inr x1)), some (.inl x2), some (.inl 0), none, none] [] σ) := rfl
theorem zm_52 {d : Nat} {x0 x1 x2 : Int} {σ : zM} : zG (d + 1) 52 [.inr (.inr x0), .inr (.inr x1), .inl x2] σ = ((fun (G : Nat → List zV → zM → zR) (K : Nat → zL → List zV → zM → zR) => K 2 [some (.inr (.inr x0)), some (.inr (.inr x1)), some (.inl x2), some (.inl 0), none, none] [] σ) (zG d) (zi_run zt_52 (zG d) 19999)) := (zG_eq zt_52 rfl rfl rfl).trans ze_52_0
set_option maxRecDepth 20000 in
theorem ze_52_2 {G : Nat → List zV → zM → zR} {K : Nat → zL → List zV → zM → zR} {x0 x1 x2 x3 : Int} {σ : zM} : zi_fr zt_52 G K 600 2 [some (.inr (.inr x0)), some (.inr (.inr x1)), some (.inl x2), some (.inl x3), none, none] [] σ = (if (σ.1 x0).1 = 4 then if ((σ.2.1 x0 0) : Int) < x3 then (some (0, σ)) else (if (x3 : Int) = 0 then (K 27 [some (.inr (.inr x0)), some (.inr (.inr x1)), some (.inl x2), some (.inl x3), none, none] [.inl 1] σ) else (if (σ.1 x0).1 = 4 then if (x3 : Int) = (σ.2.1 x0 0) then (K 27 [some (.inr (.inr x0)), some (.inr (.inr x1)), some (.inl x2), some (.inl x3), none, none] [.inl 1] σ) else (K 27 [some (.inr (.inr x0)), some (.inr (.inr x1)), some (.inl x2), some (.inl x3), none, none] [.inl 0] σ) else none)) else none) := rfl
theorem zk_52_2 {G : Nat → List zV → zM → zR} {n : Nat} {x0 x1 x2 x3 : Int} {σ : zM} : zi_run zt_52 G (n + 1) 2 [some (.inr (.inr x0)), some (.inr (.inr x1)), some (.inl x2), some (.inl x3), none, none] [] σ = ((fun (K : Nat → zL → List zV → zM → zR) => if (σ.1 x0).1 = 4 then if ((σ.2.1 x0 0) : Int) < x3 then (some (0, σ)) else (if (x3 : Int) = 0 then (K 27 [some (.inr (.inr x0)), some (.inr (.inr x1)), some (.inl x2), some (.inl x3), none, none] [.inl 1] σ) else (if (σ.1 x0).1 = 4 then if (x3 : Int) = (σ.2.1 x0 0) then (K 27 [some (.inr (.inr x0)), some (.inr (.inr x1)), some (.inl x2), some (.inl x3), none, none] [.inl 1] σ) else (K 27 [some (.inr (.inr x0)), some (.inr (.inr x1)), some (.inl x2), some (.inl x3), none, none] [.inl 0] σ) else none)) else none) (zi_run zt_52 G n)) := zi_run_succ.trans ze_52_2
set_option maxRecDepth 20000 in
theorem ze_52_27 {G : Nat → List zV → zM → zR} {K : Nat → zL → List zV → zM → zR} {x0 x1 x2 x3 y0 : Int} {σ : zM} : zi_fr zt_52 G K 600 27 [some (.inr (.inr x0)), some (.inr (.inr x1)), some (.inl x2), some (.inl x3), none, none] [.inl y0] σ = (if ((σ.1 x1).1 : Int) = 5 then (G 60 [.inr (.inr x1), .inl x2, .inl x3] σ).bind fun q1 => if (q1.1 : Int) = 126 then (K 56 [some (.inr (.inr x0)), some (.inr (.inr x1)), some (.inl x2), some (.inl x3), some (.inl y0), none] [.inl 0] q1.2) else (if (q1.2.1 x0).1 = 4 then (G 72 [.inr (.inr (q1.2.2.2.1 x0 6)), .inl x3] q1.2).bind fun q2 => if (q2.1 : Int) = 0 then (K 56 [some (.inr (.inr x0)), some (.inr (.inr x1)), some (.inl x2), some (.inl x3), some (.inl y0), none] [.inl 1] q2.2) else (K 56 [some (.inr (.inr x0)), some (.inr (.inr x1)), some (.inl x2), some (.inl x3), some (.inl y0), none] [.inl 0] q2.2) else none) else none) := rfl
theorem zk_52_27 {G : Nat → List zV → zM → zR} {n : Nat} {x0 x1 x2 x3 y0 : Int} {σ : zM} : zi_run zt_52 G (n + 1) 27 [some (.inr (.inr x0)), some (.inr (.inr x1)), some (.inl x2), some (.inl x3), none, none] [.inl y0] σ = ((fun (K : Nat → zL → List zV → zM → zR) => if ((σ.1 x1).1 : Int) = 5 then (G 60 [.inr (.inr x1), .inl x2, .inl x3] σ).bind fun q1 => if (q1.1 : Int) = 126 then (K 56 [some (.inr (.inr x0)), some (.inr (.inr x1)), some (.inl x2), some (.inl x3), some (.inl y0), none] [.inl 0] q1.2) else (if (q1.2.1 x0).1 = 4 then (G 72 [.inr (.inr (q1.2.2.2.1 x0 6)), .inl x3] q1.2).bind fun q2 => if (q2.1 : Int) = 0 then (K 56 [some (.inr (.inr x0)), some (.inr (.inr x1)), some (.inl x2), some (.inl x3), some (.inl y0), none] [.inl 1] q2.2) else (K 56 [some (.inr (.inr x0)), some (.inr (.inr x1)), some (.inl x2), some (.inl x3), some (.inl y0), none] [.inl 0] q2.2) else none) else none) (zi_run zt_52 G n)) := zi_run_succ.trans ze_52_27
set_option maxRecDepth 20000 in
theorem ze_52_56 {G : Nat → List zV → zM → zR} {K : Nat → zL → List zV → zM → zR} {x0 x1 x2 x3 x4 y0 : Int} {σ : zM} : zi_fr zt_52 G K 600 56 [some (.inr (.inr x0)), some (.inr (.inr x1)), some (.inl x2), some (.inl x3), some (.inl x4), none] [.inl y0] σ = (if (σ.1 x0).1 = 4 then if (x4 : Int) = 0 then (if (y0 : Int) = 0 then ((G 73 [.inr (.inr (σ.2.2.1 x0 7)), .inl x3, .inl 0] σ).bind fun q2 => K 2 [some (.inr (.inr x0)), some (.inr (.inr x1)), some (.inl x2), some (.inl (zi_w (x3 + 1))), none, none] [] q2.2) else ((G 73 [.inr (.inr (σ.2.2.1 x0 7)), .inl x3, .inl 1] σ).bind fun q3 => K 2 [some (.inr (.inr x0)), some (.inr (.inr x1)), some (.inl x2), some (.inl (zi_w (x3 + 1))), none, none] [] q3.2)) else ((G 73 [.inr (.inr (σ.2.2.1 x0 7)), .inl x3, .inl 1] σ).bind fun q1 => K 2 [some (.inr (.inr x0)), some (.inr (.inr x1)), some (.inl x2), some (.inl (zi_w (x3 + 1))), none, none] [] q1.2) else none) := rfl
theorem zk_52_56 {G : Nat → List zV → zM → zR} {n : Nat} {x0 x1 x2 x3 x4 y0 : Int} {σ : zM} : zi_run zt_52 G (n + 1) 56 [some (.inr (.inr x0)), some (.inr (.inr x1)), some (.inl x2), some (.inl x3), some (.inl x4), none] [.inl y0] σ = ((fun (K : Nat → zL → List zV → zM → zR) => if (σ.1 x0).1 = 4 then if (x4 : Int) = 0 then (if (y0 : Int) = 0 then ((G 73 [.inr (.inr (σ.2.2.1 x0 7)), .inl x3, .inl 0] σ).bind fun q2 => K 2 [some (.inr (.inr x0)), some (.inr (.inr x1)), some (.inl x2), some (.inl (zi_w (x3 + 1))), none, none] [] q2.2) else ((G 73 [.inr (.inr (σ.2.2.1 x0 7)), .inl x3, .inl 1] σ).bind fun q3 => K 2 [some (.inr (.inr x0)), some (.inr (.inr x1)), some (.inl x2), some (.inl (zi_w (x3 + 1))), none, none] [] q3.2)) else ((G 73 [.inr (.inr (σ.2.2.1 x0 7)), .inl x3, .inl 1] σ).bind fun q1 => K 2 [some (.inr (.inr x0)), some (.inr (.inr x1)), some (.inl x2), some (.inl (zi_w (x3 + 1))), none, none] [] q1.2) else none) (zi_run zt_52 G n)) := zi_run_succ.trans ze_52_56
-- FoldedRows$LaidLine.fillRow(LFoldedRows$Lines;IILFoldedRows$Settings;)I
set_option maxRecDepth 20000 in
theorem ze_53_0 {G : Nat → List zV → zM → zR} {K : Nat → zL → List zV → zM → zR} {x0 x1 x2 x3 x4 : Int} {σ : zM} : zi_fr zt_53 G K 600 0 [some (.inr (.inr x0)), some (.inr (.inr x1)), some (.inl x2), some (.inl x3), some (.inr (.inr x4)), none, none, none, none, none, none, none] [] σ = (if ((σ.1 x0).1 : Int) = 4 then (G 42 [.inr (.inr x0), .inl x3] σ).bind fun q1 => if ((q1.2.1 x0).1 : Int) = 4 then (G 43 [.inr (.inr x0), .inl x3] q1.2).bind fun q2 => K 18 [some (.inr (.inr x0)), some (.inr (.inr x1)), some (.inl x2), some (.inl x3), some (.inr (.inr x4)), some (.inl q1.1), some (.inl q2.1), some (.inl q1.1), none, none, none, none] [] q2.2 else none else none) := rfl
theorem zm_53 {d : Nat} {x0 x1 x2 x3 x4 : Int} {σ : zM} : zG (d + 1) 53 [.inr (.inr x0), .inr (.inr x1), .inl x2, .inl x3, .inr (.inr x4)] σ = ((fun (G : Nat → List zV → zM → zR) (K : Nat → zL → List zV → zM → zR) => if ((σ.1 x0).1 : Int) = 4 then (G 42 [.inr (.inr x0), .inl x3] σ).bind fun q1 => if ((q1.2.1 x0).1 : Int) = 4 then (G 43 [.inr (.inr x0), .inl x3] q1.2).bind fun q2 => K 18 [some (.inr (.inr x0)), some (.inr (.inr x1)), some (.inl x2), some (.inl x3), some (.inr (.inr x4)), some (.inl q1.1), some (.inl q2.1), some (.inl q1.1), none, none, none, none] [] q2.2 else none else none) (zG d) (zi_run zt_53 (zG d) 19999)) := (zG_eq zt_53 rfl rfl rfl).trans ze_53_0
set_option maxRecDepth 20000 in
theorem ze_53_18 {G : Nat → List zV → zM → zR} {K : Nat → zL → List zV → zM → zR} {x0 x1 x2 x3 x4 x5 x6 x7 : Int} {σ : zM} : zi_fr zt_53 G K 600 18 [some (.inr (.inr x0)), some (.inr (.inr x1)), some (.inl x2), some (.inl x3), some (.inr (.inr x4)), some (.inl x5), some (.inl x6), some (.inl x7), none, none, none, none] [] σ = (if (σ.1 x0).1 = 4 then if (x7 : Int) < (σ.2.1 x0 0) then (if ((σ.1 x1).1 : Int) = 5 then (G 60 [.inr (.inr x1), .inl x2, .inl x7] σ).bind fun q2 => if ((q2.2.1 x4).1 : Int) = 7 then (G 88 [.inr (.inr x4), .inl q2.1, .inl x7, .inl x6] q2.2).bind fun q3 => if ((q3.2.1 x4).1 : Int) = 7 then (G 89 [.inr (.inr x4), .inl q2.1, .inl x6, .inl q3.1] q3.2).bind fun q4 => if (q4.1 : Int) = 0 then ((G 135 [.inl q2.1] q4.2).bind fun q5 => if (q5.1 : Int) = 0 then (if (q5.2.1 x4).1 = 7 then if ((q5.2.2.1 x4 2) : Int) = 2 then (if ((q5.2.1 x0).1 : Int) = 4 then (G 54 [.inr (.inr x0), .inl x5, .inl x7] q5.2).bind fun q9 => if (q9.2.1 x0).1 = 4 then if (q9.1 : Int) < x7 then (if ((q9.2.1 x0).1 : Int) = 4 then (G 41 [.inr (.inr x0), .inl q9.1] q9.2).bind fun q11 => (G 73 [.inr (.inr (q9.2.2.2.1 x0 10)), .inl x3, .inl q11.1] q11.2).bind fun q12 => some (q9.1, q12.2) else none) else ((G 73 [.inr (.inr (q9.2.2.2.1 x0 10)), .inl x3, .inl x6] q9.2).bind fun q10 => some (q9.1, q10.2)) else none else none) else (if (q5.2.1 x0).1 = 4 then if (x7 : Int) < x7 then (if ((q5.2.1 x0).1 : Int) = 4 then (G 41 [.inr (.inr x0), .inl x7] q5.2).bind fun q7 => (G 73 [.inr (.inr (q5.2.2.2.1 x0 10)), .inl x3, .inl q7.1] q7.2).bind fun q8 => some (x7, q8.2) else none) else ((G 73 [.inr (.inr (q5.2.2.2.1 x0 10)), .inl x3, .inl x6] q5.2).bind fun q6 => some (x7, q6.2)) else none) else none) else (if (q4.1 : Int) = 0 then (K 139 [some (.inr (.inr x0)), some (.inr (.inr x1)), some (.inl x2), some (.inl x3), some (.inr (.inr x4)), some (.inl x5), some (.inl x6), some (.inl x7), none, none, some (.inl q4.1), none] [.inl 0] q5.2) else (K 139 [some (.inr (.inr x0)), some (.inr (.inr x1)), some (.inl x2), some (.inl x3), some (.inr (.inr x4)), some (.inl x5), some (.inl x6), some (.inl x7), none, none, some (.inl q4.1), none] [.inl q3.1] q5.2))) else (if (q4.1 : Int) = 0 then (K 139 [some (.inr (.inr x0)), some (.inr (.inr x1)), some (.inl x2), some (.inl x3), some (.inr (.inr x4)), some (.inl x5), some (.inl x6), some (.inl x7), none, none, some (.inl q4.1), none] [.inl 0] q4.2) else (K 139 [some (.inr (.inr x0)), some (.inr (.inr x1)), some (.inl x2), some (.inl x3), some (.inr (.inr x4)), some (.inl x5), some (.inl x6), some (.inl x7), none, none, some (.inl q4.1), none] [.inl q3.1] q4.2)) else none else none else none) else (if (σ.1 x0).1 = 4 then (G 73 [.inr (.inr (σ.2.2.1 x0 10)), .inl x3, .inl x6] σ).bind fun q1 => if (q1.2.1 x0).1 = 4 then some ((q1.2.2.1 x0 0), q1.2) else none else none) else none) := rfl
theorem zk_53_18 {G : Nat → List zV → zM → zR} {n : Nat} {x0 x1 x2 x3 x4 x5 x6 x7 : Int} {σ : zM} : zi_run zt_53 G (n + 1) 18 [some (.inr (.inr x0)), some (.inr (.inr x1)), some (.inl x2), some (.inl x3), some (.inr (.inr x4)), some (.inl x5), some (.inl x6), some (.inl x7), none, none, none, none] [] σ = ((fun (K : Nat → zL → List zV → zM → zR) => if (σ.1 x0).1 = 4 then if (x7 : Int) < (σ.2.1 x0 0) then (if ((σ.1 x1).1 : Int) = 5 then (G 60 [.inr (.inr x1), .inl x2, .inl x7] σ).bind fun q2 => if ((q2.2.1 x4).1 : Int) = 7 then (G 88 [.inr (.inr x4), .inl q2.1, .inl x7, .inl x6] q2.2).bind fun q3 => if ((q3.2.1 x4).1 : Int) = 7 then (G 89 [.inr (.inr x4), .inl q2.1, .inl x6, .inl q3.1] q3.2).bind fun q4 => if (q4.1 : Int) = 0 then ((G 135 [.inl q2.1] q4.2).bind fun q5 => if (q5.1 : Int) = 0 then (if (q5.2.1 x4).1 = 7 then if ((q5.2.2.1 x4 2) : Int) = 2 then (if ((q5.2.1 x0).1 : Int) = 4 then (G 54 [.inr (.inr x0), .inl x5, .inl x7] q5.2).bind fun q9 => if (q9.2.1 x0).1 = 4 then if (q9.1 : Int) < x7 then (if ((q9.2.1 x0).1 : Int) = 4 then (G 41 [.inr (.inr x0), .inl q9.1] q9.2).bind fun q11 => (G 73 [.inr (.inr (q9.2.2.2.1 x0 10)), .inl x3, .inl q11.1] q11.2).bind fun q12 => some (q9.1, q12.2) else none) else ((G 73 [.inr (.inr (q9.2.2.2.1 x0 10)), .inl x3, .inl x6] q9.2).bind fun q10 => some (q9.1, q10.2)) else none else none) else (if (q5.2.1 x0).1 = 4 then if (x7 : Int) < x7 then (if ((q5.2.1 x0).1 : Int) = 4 then (G 41 [.inr (.inr x0), .inl x7] q5.2).bind fun q7 => (G 73 [.inr (.inr (q5.2.2.2.1 x0 10)), .inl x3, .inl q7.1] q7.2).bind fun q8 => some (x7, q8.2) else none) else ((G 73 [.inr (.inr (q5.2.2.2.1 x0 10)), .inl x3, .inl x6] q5.2).bind fun q6 => some (x7, q6.2)) else none) else none) else (if (q4.1 : Int) = 0 then (K 139 [some (.inr (.inr x0)), some (.inr (.inr x1)), some (.inl x2), some (.inl x3), some (.inr (.inr x4)), some (.inl x5), some (.inl x6), some (.inl x7), none, none, some (.inl q4.1), none] [.inl 0] q5.2) else (K 139 [some (.inr (.inr x0)), some (.inr (.inr x1)), some (.inl x2), some (.inl x3), some (.inr (.inr x4)), some (.inl x5), some (.inl x6), some (.inl x7), none, none, some (.inl q4.1), none] [.inl q3.1] q5.2))) else (if (q4.1 : Int) = 0 then (K 139 [some (.inr (.inr x0)), some (.inr (.inr x1)), some (.inl x2), some (.inl x3), some (.inr (.inr x4)), some (.inl x5), some (.inl x6), some (.inl x7), none, none, some (.inl q4.1), none] [.inl 0] q4.2) else (K 139 [some (.inr (.inr x0)), some (.inr (.inr x1)), some (.inl x2), some (.inl x3), some (.inr (.inr x4)), some (.inl x5), some (.inl x6), some (.inl x7), none, none, some (.inl q4.1), none] [.inl q3.1] q4.2)) else none else none else none) else (if (σ.1 x0).1 = 4 then (G 73 [.inr (.inr (σ.2.2.1 x0 10)), .inl x3, .inl x6] σ).bind fun q1 => if (q1.2.1 x0).1 = 4 then some ((q1.2.2.1 x0 0), q1.2) else none else none) else none) (zi_run zt_53 G n)) := zi_run_succ.trans ze_53_18
set_option maxRecDepth 20000 in
theorem ze_53_139 {G : Nat → List zV → zM → zR} {K : Nat → zL → List zV → zM → zR} {x0 x1 x2 x3 x4 x5 x6 x7 x10 y0 : Int} {σ : zM} : zi_fr zt_53 G K 600 139 [some (.inr (.inr x0)), some (.inr (.inr x1)), some (.inl x2), some (.inl x3), some (.inr (.inr x4)), some (.inl x5), some (.inl x6), some (.inl x7), none, none, some (.inl x10), none] [.inl y0] σ = (if (σ.1 x0).1 = 4 then (G 73 [.inr (.inr (σ.2.2.1 x0 3)), .inl x7, .inl x3] σ).bind fun q1 => if (q1.2.1 x0).1 = 4 then (G 73 [.inr (.inr (q1.2.2.2.1 x0 4)), .inl x7, .inl x6] q1.2).bind fun q2 => if (q2.2.1 x0).1 = 4 then (G 73 [.inr (.inr (q2.2.2.2.1 x0 5)), .inl x7, .inl y0] q2.2).bind fun q3 => if (q3.2.1 x0).1 = 4 then if (x10 : Int) = 0 then ((G 73 [.inr (.inr (q3.2.2.2.1 x0 6)), .inl x7, .inl 1] q3.2).bind fun q4 => K 18 [some (.inr (.inr x0)), some (.inr (.inr x1)), some (.inl x2), some (.inl x3), some (.inr (.inr x4)), some (.inl x5), some (.inl (zi_w (x6 + y0))), some (.inl (zi_w (x7 + 1))), none, none, none, none] [] q4.2) else ((G 73 [.inr (.inr (q3.2.2.2.1 x0 6)), .inl x7, .inl 0] q3.2).bind fun q5 => K 18 [some (.inr (.inr x0)), some (.inr (.inr x1)), some (.inl x2), some (.inl x3), some (.inr (.inr x4)), some (.inl x5), some (.inl (zi_w (x6 + y0))), some (.inl (zi_w (x7 + 1))), none, none, none, none] [] q5.2) else none else none else none else none) := rfl
theorem zk_53_139 {G : Nat → List zV → zM → zR} {n : Nat} {x0 x1 x2 x3 x4 x5 x6 x7 x10 y0 : Int} {σ : zM} : zi_run zt_53 G (n + 1) 139 [some (.inr (.inr x0)), some (.inr (.inr x1)), some (.inl x2), some (.inl x3), some (.inr (.inr x4)), some (.inl x5), some (.inl x6), some (.inl x7), none, none, some (.inl x10), none] [.inl y0] σ = ((fun (K : Nat → zL → List zV → zM → zR) => if (σ.1 x0).1 = 4 then (G 73 [.inr (.inr (σ.2.2.1 x0 3)), .inl x7, .inl x3] σ).bind fun q1 => if (q1.2.1 x0).1 = 4 then (G 73 [.inr (.inr (q1.2.2.2.1 x0 4)), .inl x7, .inl x6] q1.2).bind fun q2 => if (q2.2.1 x0).1 = 4 then (G 73 [.inr (.inr (q2.2.2.2.1 x0 5)), .inl x7, .inl y0] q2.2).bind fun q3 => if (q3.2.1 x0).1 = 4 then if (x10 : Int) = 0 then ((G 73 [.inr (.inr (q3.2.2.2.1 x0 6)), .inl x7, .inl 1] q3.2).bind fun q4 => K 18 [some (.inr (.inr x0)), some (.inr (.inr x1)), some (.inl x2), some (.inl x3), some (.inr (.inr x4)), some (.inl x5), some (.inl (zi_w (x6 + y0))), some (.inl (zi_w (x7 + 1))), none, none, none, none] [] q4.2) else ((G 73 [.inr (.inr (q3.2.2.2.1 x0 6)), .inl x7, .inl 0] q3.2).bind fun q5 => K 18 [some (.inr (.inr x0)), some (.inr (.inr x1)), some (.inl x2), some (.inl x3), some (.inr (.inr x4)), some (.inl x5), some (.inl (zi_w (x6 + y0))), some (.inl (zi_w (x7 + 1))), none, none, none, none] [] q5.2) else none else none else none else none) (zi_run zt_53 G n)) := zi_run_succ.trans ze_53_139
-- FoldedRows$LaidLine.rowEnd(II)I
set_option maxRecDepth 20000 in
theorem ze_54_0 {G : Nat → List zV → zM → zR} {K : Nat → zL → List zV → zM → zR} {x0 x1 x2 : Int} {σ : zM} : zi_fr zt_54 G K 600 0 [some (.inr (.inr x0)), some (.inl x1), some (.inl x2), none] [] σ = (K 2 [some (.inr (.inr x0)), some (.inl x1), some (.inl x2), some (.inl x2)] [] σ) := rfl
theorem zm_54 {d : Nat} {x0 x1 x2 : Int} {σ : zM} : zG (d + 1) 54 [.inr (.inr x0), .inl x1, .inl x2] σ = ((fun (G : Nat → List zV → zM → zR) (K : Nat → zL → List zV → zM → zR) => K 2 [some (.inr (.inr x0)), some (.inl x1), some (.inl x2), some (.inl x2)] [] σ) (zG d) (zi_run zt_54 (zG d) 19999)) := (zG_eq zt_54 rfl rfl rfl).trans ze_54_0
set_option maxRecDepth 20000 in
theorem ze_54_2 {G : Nat → List zV → zM → zR} {K : Nat → zL → List zV → zM → zR} {x0 x1 x2 x3 : Int} {σ : zM} : zi_fr zt_54 G K 600 2 [some (.inr (.inr x0)), some (.inl x1), some (.inl x2), some (.inl x3)] [] σ = (if (x1 : Int) < x3 then (if (σ.1 x0).1 = 4 then (G 72 [.inr (.inr (σ.2.2.1 x0 8)), .inl x3] σ).bind fun q1 => if (q1.1 : Int) = 1 then (some (x3, q1.2)) else (K 2 [some (.inr (.inr x0)), some (.inl x1), some (.inl x2), some (.inl (zi_w (x3 + (-1))))] [] q1.2) else none) else (some (x2, σ))) := rfl
theorem zk_54_2 {G : Nat → List zV → zM → zR} {n : Nat} {x0 x1 x2 x3 : Int} {σ : zM} : zi_run zt_54 G (n + 1) 2 [some (.inr (.inr x0)), some (.inl x1), some (.inl x2), some (.inl x3)] [] σ = ((fun (K : Nat → zL → List zV → zM → zR) => if (x1 : Int) < x3 then (if (σ.1 x0).1 = 4 then (G 72 [.inr (.inr (σ.2.2.1 x0 8)), .inl x3] σ).bind fun q1 => if (q1.1 : Int) = 1 then (some (x3, q1.2)) else (K 2 [some (.inr (.inr x0)), some (.inl x1), some (.inl x2), some (.inl (zi_w (x3 + (-1))))] [] q1.2) else none) else (some (x2, σ))) (zi_run zt_54 G n)) := zi_run_succ.trans ze_54_2
-- FoldedRows$Lines.<init>()V
set_option maxRecDepth 20000 in
theorem ze_55_0 {G : Nat → List zV → zM → zR} {K : Nat → zL → List zV → zM → zR} {x0 : Int} {σ : zM} : zi_fr zt_55 G K 600 0 [some (.inr (.inr x0))] [] σ = (if ((σ.1 x0).1 : Int) = 5 then (G 1000 [.inr (.inr x0)] σ).bind fun q1 => if (q1.2.1 x0).1 = 5 then let s2 : zM := zi_wr q1.2 x0 0 1; if (0 : Int) ≤ 12 ∧ (12 : Int) ≤ 100000 then let s3 : zM := zi_new s2 12 12 (Int.toNat 12); if (s3.1 x0).1 = 5 then let s4 : zM := zi_wq s3 x0 1 s2.2.2.2.1; if (0 : Int) ≤ 480 ∧ (480 : Int) ≤ 100000 then let s5 : zM := zi_new s4 12 480 (Int.toNat 480); if (s5.1 x0).1 = 5 then let s6 : zM := zi_wq s5 x0 2 s4.2.2.2.1; some (0, s6) else none else none else none else none else none else none) := rfl
theorem zm_55 {d : Nat} {x0 : Int} {σ : zM} : zG (d + 1) 55 [.inr (.inr x0)] σ = ((fun (G : Nat → List zV → zM → zR) (K : Nat → zL → List zV → zM → zR) => if ((σ.1 x0).1 : Int) = 5 then (G 1000 [.inr (.inr x0)] σ).bind fun q1 => if (q1.2.1 x0).1 = 5 then let s2 : zM := zi_wr q1.2 x0 0 1; if (0 : Int) ≤ 12 ∧ (12 : Int) ≤ 100000 then let s3 : zM := zi_new s2 12 12 (Int.toNat 12); if (s3.1 x0).1 = 5 then let s4 : zM := zi_wq s3 x0 1 s2.2.2.2.1; if (0 : Int) ≤ 480 ∧ (480 : Int) ≤ 100000 then let s5 : zM := zi_new s4 12 480 (Int.toNat 480); if (s5.1 x0).1 = 5 then let s6 : zM := zi_wq s5 x0 2 s4.2.2.2.1; some (0, s6) else none else none else none else none else none else none) (zG d) (zi_run zt_55 (zG d) 19999)) := (zG_eq zt_55 rfl rfl rfl).trans ze_55_0
-- FoldedRows$Lines.has(I)Z
set_option maxRecDepth 20000 in
theorem ze_56_0 {G : Nat → List zV → zM → zR} {K : Nat → zL → List zV → zM → zR} {x0 x1 : Int} {σ : zM} : zi_fr zt_56 G K 600 0 [some (.inr (.inr x0)), some (.inl x1)] [] σ = (if (x1 : Int) < 0 then (if (0 : Int) = 0 ∨ (0 : Int) = 1 then some (0, σ) else none) else (if (σ.1 x0).1 = 5 then if (x1 : Int) < (σ.2.1 x0 0) then (if (1 : Int) = 0 ∨ (1 : Int) = 1 then some (1, σ) else none) else (if (0 : Int) = 0 ∨ (0 : Int) = 1 then some (0, σ) else none) else none)) := rfl
theorem zm_56 {d : Nat} {x0 x1 : Int} {σ : zM} : zG (d + 1) 56 [.inr (.inr x0), .inl x1] σ = ((fun (G : Nat → List zV → zM → zR) (K : Nat → zL → List zV → zM → zR) => if (x1 : Int) < 0 then (if (0 : Int) = 0 ∨ (0 : Int) = 1 then some (0, σ) else none) else (if (σ.1 x0).1 = 5 then if (x1 : Int) < (σ.2.1 x0 0) then (if (1 : Int) = 0 ∨ (1 : Int) = 1 then some (1, σ) else none) else (if (0 : Int) = 0 ∨ (0 : Int) = 1 then some (0, σ) else none) else none)) (zG d) (zi_run zt_56 (zG d) 19999)) := (zG_eq zt_56 rfl rfl rfl).trans ze_56_0
-- FoldedRows$Lines.hasPlace(II)Z
set_option maxRecDepth 20000 in
theorem ze_57_0 {G : Nat → List zV → zM → zR} {K : Nat → zL → List zV → zM → zR} {x0 x1 x2 : Int} {σ : zM} : zi_fr zt_57 G K 600 0 [some (.inr (.inr x0)), some (.inl x1), some (.inl x2)] [] σ = (if ((σ.1 x0).1 : Int) = 5 then (G 56 [.inr (.inr x0), .inl x1] σ).bind fun q1 => if (q1.1 : Int) = 0 then (if (0 : Int) = 0 ∨ (0 : Int) = 1 then some (0, q1.2) else none) else (if (x2 : Int) < 0 then (if (0 : Int) = 0 ∨ (0 : Int) = 1 then some (0, q1.2) else none) else (if ((q1.2.1 x0).1 : Int) = 5 then (G 58 [.inr (.inr x0), .inl x1] q1.2).bind fun q2 => if (q2.1 : Int) < x2 then (if (0 : Int) = 0 ∨ (0 : Int) = 1 then some (0, q2.2) else none) else (if (1 : Int) = 0 ∨ (1 : Int) = 1 then some (1, q2.2) else none) else none)) else none) := rfl
theorem zm_57 {d : Nat} {x0 x1 x2 : Int} {σ : zM} : zG (d + 1) 57 [.inr (.inr x0), .inl x1, .inl x2] σ = ((fun (G : Nat → List zV → zM → zR) (K : Nat → zL → List zV → zM → zR) => if ((σ.1 x0).1 : Int) = 5 then (G 56 [.inr (.inr x0), .inl x1] σ).bind fun q1 => if (q1.1 : Int) = 0 then (if (0 : Int) = 0 ∨ (0 : Int) = 1 then some (0, q1.2) else none) else (if (x2 : Int) < 0 then (if (0 : Int) = 0 ∨ (0 : Int) = 1 then some (0, q1.2) else none) else (if ((q1.2.1 x0).1 : Int) = 5 then (G 58 [.inr (.inr x0), .inl x1] q1.2).bind fun q2 => if (q2.1 : Int) < x2 then (if (0 : Int) = 0 ∨ (0 : Int) = 1 then some (0, q2.2) else none) else (if (1 : Int) = 0 ∨ (1 : Int) = 1 then some (1, q2.2) else none) else none)) else none) (zG d) (zi_run zt_57 (zG d) 19999)) := (zG_eq zt_57 rfl rfl rfl).trans ze_57_0
-- FoldedRows$Lines.length(I)I
set_option maxRecDepth 20000 in
theorem ze_58_0 {G : Nat → List zV → zM → zR} {K : Nat → zL → List zV → zM → zR} {x0 x1 : Int} {σ : zM} : zi_fr zt_58 G K 600 0 [some (.inr (.inr x0)), some (.inl x1)] [] σ = (if (σ.1 x0).1 = 5 then (G 72 [.inr (.inr (σ.2.2.1 x0 1)), .inl x1] σ).bind fun q1 => some (q1.1, q1.2) else none) := rfl
theorem zm_58 {d : Nat} {x0 x1 : Int} {σ : zM} : zG (d + 1) 58 [.inr (.inr x0), .inl x1] σ = ((fun (G : Nat → List zV → zM → zR) (K : Nat → zL → List zV → zM → zR) => if (σ.1 x0).1 = 5 then (G 72 [.inr (.inr (σ.2.2.1 x0 1)), .inl x1] σ).bind fun q1 => some (q1.1, q1.2) else none) (zG d) (zi_run zt_58 (zG d) 19999)) := (zG_eq zt_58 rfl rfl rfl).trans ze_58_0
-- FoldedRows$Lines.total()I
set_option maxRecDepth 20000 in
theorem ze_59_0 {G : Nat → List zV → zM → zR} {K : Nat → zL → List zV → zM → zR} {x0 : Int} {σ : zM} : zi_fr zt_59 G K 600 0 [some (.inr (.inr x0))] [] σ = (if (σ.1 x0).1 = 5 then if (σ.1 x0).1 = 5 then (G 75 [.inr (.inr (σ.2.2.1 x0 1)), .inl (σ.2.1 x0 0)] σ).bind fun q1 => some (q1.1, q1.2) else none else none) := rfl
theorem zm_59 {d : Nat} {x0 : Int} {σ : zM} : zG (d + 1) 59 [.inr (.inr x0)] σ = ((fun (G : Nat → List zV → zM → zR) (K : Nat → zL → List zV → zM → zR) => if (σ.1 x0).1 = 5 then if (σ.1 x0).1 = 5 then (G 75 [.inr (.inr (σ.2.2.1 x0 1)), .inl (σ.2.1 x0 0)] σ).bind fun q1 => some (q1.1, q1.2) else none else none) (zG d) (zi_run zt_59 (zG d) 19999)) := (zG_eq zt_59 rfl rfl rfl).trans ze_59_0
-- FoldedRows$Lines.signOf(II)I
set_option maxRecDepth 20000 in
theorem ze_60_0 {G : Nat → List zV → zM → zR} {K : Nat → zL → List zV → zM → zR} {x0 x1 x2 : Int} {σ : zM} : zi_fr zt_60 G K 600 0 [some (.inr (.inr x0)), some (.inl x1), some (.inl x2)] [] σ = (if (σ.1 x0).1 = 5 then (G 72 [.inr (.inr (σ.2.2.1 x0 2)), .inl (zi_w ((zi_w (x1 * 40)) + x2))] σ).bind fun q1 => some (q1.1, q1.2) else none) := rfl
theorem zm_60 {d : Nat} {x0 x1 x2 : Int} {σ : zM} : zG (d + 1) 60 [.inr (.inr x0), .inl x1, .inl x2] σ = ((fun (G : Nat → List zV → zM → zR) (K : Nat → zL → List zV → zM → zR) => if (σ.1 x0).1 = 5 then (G 72 [.inr (.inr (σ.2.2.1 x0 2)), .inl (zi_w ((zi_w (x1 * 40)) + x2))] σ).bind fun q1 => some (q1.1, q1.2) else none) (zG d) (zi_run zt_60 (zG d) 19999)) := (zG_eq zt_60 rfl rfl rfl).trans ze_60_0
-- FoldedRows$Lines.clear()V
set_option maxRecDepth 20000 in
theorem ze_61_0 {G : Nat → List zV → zM → zR} {K : Nat → zL → List zV → zM → zR} {x0 : Int} {σ : zM} : zi_fr zt_61 G K 600 0 [some (.inr (.inr x0))] [] σ = (if (σ.1 x0).1 = 5 then let s1 : zM := zi_wr σ x0 0 1; if (s1.1 x0).1 = 5 then (G 73 [.inr (.inr (s1.2.2.1 x0 1)), .inl 0, .inl 0] s1).bind fun q2 => some (0, q2.2) else none else none) := rfl
theorem zm_61 {d : Nat} {x0 : Int} {σ : zM} : zG (d + 1) 61 [.inr (.inr x0)] σ = ((fun (G : Nat → List zV → zM → zR) (K : Nat → zL → List zV → zM → zR) => if (σ.1 x0).1 = 5 then let s1 : zM := zi_wr σ x0 0 1; if (s1.1 x0).1 = 5 then (G 73 [.inr (.inr (s1.2.2.1 x0 1)), .inl 0, .inl 0] s1).bind fun q2 => some (0, q2.2) else none else none) (zG d) (zi_run zt_61 (zG d) 19999)) := (zG_eq zt_61 rfl rfl rfl).trans ze_61_0
-- FoldedRows$Lines.addLine()V
set_option maxRecDepth 20000 in
theorem ze_62_0 {G : Nat → List zV → zM → zR} {K : Nat → zL → List zV → zM → zR} {x0 : Int} {σ : zM} : zi_fr zt_62 G K 600 0 [some (.inr (.inr x0))] [] σ = (if (σ.1 x0).1 = 5 then if (σ.1 x0).1 = 5 then (G 73 [.inr (.inr (σ.2.2.1 x0 1)), .inl (σ.2.1 x0 0), .inl 0] σ).bind fun q1 => if (q1.2.1 x0).1 = 5 then if (q1.2.1 x0).1 = 5 then let s2 : zM := zi_wr q1.2 x0 0 (zi_w ((q1.2.2.1 x0 0) + 1)); some (0, s2) else none else none else none else none) := rfl
theorem zm_62 {d : Nat} {x0 : Int} {σ : zM} : zG (d + 1) 62 [.inr (.inr x0)] σ = ((fun (G : Nat → List zV → zM → zR) (K : Nat → zL → List zV → zM → zR) => if (σ.1 x0).1 = 5 then if (σ.1 x0).1 = 5 then (G 73 [.inr (.inr (σ.2.2.1 x0 1)), .inl (σ.2.1 x0 0), .inl 0] σ).bind fun q1 => if (q1.2.1 x0).1 = 5 then if (q1.2.1 x0).1 = 5 then let s2 : zM := zi_wr q1.2 x0 0 (zi_w ((q1.2.2.1 x0 0) + 1)); some (0, s2) else none else none else none else none) (zG d) (zi_run zt_62 (zG d) 19999)) := (zG_eq zt_62 rfl rfl rfl).trans ze_62_0
-- FoldedRows$Lines.append(II)V
set_option maxRecDepth 20000 in
theorem ze_63_0 {G : Nat → List zV → zM → zR} {K : Nat → zL → List zV → zM → zR} {x0 x1 x2 : Int} {σ : zM} : zi_fr zt_63 G K 600 0 [some (.inr (.inr x0)), some (.inl x1), some (.inl x2), none] [] σ = (if ((σ.1 x0).1 : Int) = 5 then (G 58 [.inr (.inr x0), .inl x1] σ).bind fun q1 => if (q1.2.1 x0).1 = 5 then (G 73 [.inr (.inr (q1.2.2.2.1 x0 2)), .inl (zi_w ((zi_w (x1 * 40)) + q1.1)), .inl x2] q1.2).bind fun q2 => if (q2.2.1 x0).1 = 5 then (G 73 [.inr (.inr (q2.2.2.2.1 x0 1)), .inl x1, .inl (zi_w (q1.1 + 1))] q2.2).bind fun q3 => some (0, q3.2) else none else none else none) := rfl
theorem zm_63 {d : Nat} {x0 x1 x2 : Int} {σ : zM} : zG (d + 1) 63 [.inr (.inr x0), .inl x1, .inl x2] σ = ((fun (G : Nat → List zV → zM → zR) (K : Nat → zL → List zV → zM → zR) => if ((σ.1 x0).1 : Int) = 5 then (G 58 [.inr (.inr x0), .inl x1] σ).bind fun q1 => if (q1.2.1 x0).1 = 5 then (G 73 [.inr (.inr (q1.2.2.2.1 x0 2)), .inl (zi_w ((zi_w (x1 * 40)) + q1.1)), .inl x2] q1.2).bind fun q2 => if (q2.2.1 x0).1 = 5 then (G 73 [.inr (.inr (q2.2.2.2.1 x0 1)), .inl x1, .inl (zi_w (q1.1 + 1))] q2.2).bind fun q3 => some (0, q3.2) else none else none else none) (zG d) (zi_run zt_63 (zG d) 19999)) := (zG_eq zt_63 rfl rfl rfl).trans ze_63_0
-- FoldedRows$Lines.insert(III)V
set_option maxRecDepth 20000 in
theorem ze_64_0 {G : Nat → List zV → zM → zR} {K : Nat → zL → List zV → zM → zR} {x0 x1 x2 x3 : Int} {σ : zM} : zi_fr zt_64 G K 600 0 [some (.inr (.inr x0)), some (.inl x1), some (.inl x2), some (.inl x3), none, none] [] σ = (if ((σ.1 x0).1 : Int) = 5 then (G 58 [.inr (.inr x0), .inl x1] σ).bind fun q1 => K 11 [some (.inr (.inr x0)), some (.inl x1), some (.inl x2), some (.inl x3), some (.inl q1.1), some (.inl q1.1)] [] q1.2 else none) := rfl
theorem zm_64 {d : Nat} {x0 x1 x2 x3 : Int} {σ : zM} : zG (d + 1) 64 [.inr (.inr x0), .inl x1, .inl x2, .inl x3] σ = ((fun (G : Nat → List zV → zM → zR) (K : Nat → zL → List zV → zM → zR) => if ((σ.1 x0).1 : Int) = 5 then (G 58 [.inr (.inr x0), .inl x1] σ).bind fun q1 => K 11 [some (.inr (.inr x0)), some (.inl x1), some (.inl x2), some (.inl x3), some (.inl q1.1), some (.inl q1.1)] [] q1.2 else none) (zG d) (zi_run zt_64 (zG d) 19999)) := (zG_eq zt_64 rfl rfl rfl).trans ze_64_0
set_option maxRecDepth 20000 in
theorem ze_64_11 {G : Nat → List zV → zM → zR} {K : Nat → zL → List zV → zM → zR} {x0 x1 x2 x3 x4 x5 : Int} {σ : zM} : zi_fr zt_64 G K 600 11 [some (.inr (.inr x0)), some (.inl x1), some (.inl x2), some (.inl x3), some (.inl x4), some (.inl x5)] [] σ = (if (x2 : Int) < x5 then (if ((σ.1 x0).1 : Int) = 5 then (G 60 [.inr (.inr x0), .inl x1, .inl (zi_w (x5 - 1))] σ).bind fun q3 => if ((q3.2.1 x0).1 : Int) = 5 then (G 71 [.inr (.inr x0), .inl x1, .inl x5, .inl q3.1] q3.2).bind fun q4 => K 11 [some (.inr (.inr x0)), some (.inl x1), some (.inl x2), some (.inl x3), some (.inl x4), some (.inl (zi_w (x5 + (-1))))] [] q4.2 else none else none) else (if ((σ.1 x0).1 : Int) = 5 then (G 71 [.inr (.inr x0), .inl x1, .inl x2, .inl x3] σ).bind fun q1 => if (q1.2.1 x0).1 = 5 then (G 73 [.inr (.inr (q1.2.2.2.1 x0 1)), .inl x1, .inl (zi_w (x4 + 1))] q1.2).bind fun q2 => some (0, q2.2) else none else none)) := rfl
theorem zk_64_11 {G : Nat → List zV → zM → zR} {n : Nat} {x0 x1 x2 x3 x4 x5 : Int} {σ : zM} : zi_run zt_64 G (n + 1) 11 [some (.inr (.inr x0)), some (.inl x1), some (.inl x2), some (.inl x3), some (.inl x4), some (.inl x5)] [] σ = ((fun (K : Nat → zL → List zV → zM → zR) => if (x2 : Int) < x5 then (if ((σ.1 x0).1 : Int) = 5 then (G 60 [.inr (.inr x0), .inl x1, .inl (zi_w (x5 - 1))] σ).bind fun q3 => if ((q3.2.1 x0).1 : Int) = 5 then (G 71 [.inr (.inr x0), .inl x1, .inl x5, .inl q3.1] q3.2).bind fun q4 => K 11 [some (.inr (.inr x0)), some (.inl x1), some (.inl x2), some (.inl x3), some (.inl x4), some (.inl (zi_w (x5 + (-1))))] [] q4.2 else none else none) else (if ((σ.1 x0).1 : Int) = 5 then (G 71 [.inr (.inr x0), .inl x1, .inl x2, .inl x3] σ).bind fun q1 => if (q1.2.1 x0).1 = 5 then (G 73 [.inr (.inr (q1.2.2.2.1 x0 1)), .inl x1, .inl (zi_w (x4 + 1))] q1.2).bind fun q2 => some (0, q2.2) else none else none)) (zi_run zt_64 G n)) := zi_run_succ.trans ze_64_11
-- FoldedRows$Lines.remove(III)V
set_option maxRecDepth 20000 in
theorem ze_65_0 {G : Nat → List zV → zM → zR} {K : Nat → zL → List zV → zM → zR} {x0 x1 x2 x3 : Int} {σ : zM} : zi_fr zt_65 G K 600 0 [some (.inr (.inr x0)), some (.inl x1), some (.inl x2), some (.inl x3), none, none, none] [] σ = (if ((σ.1 x0).1 : Int) = 5 then (G 58 [.inr (.inr x0), .inl x1] σ).bind fun q1 => K 15 [some (.inr (.inr x0)), some (.inl x1), none, none, some (.inl q1.1), some (.inl (zi_w (x3 - x2))), some (.inl x3)] [] q1.2 else none) := rfl
theorem zm_65 {d : Nat} {x0 x1 x2 x3 : Int} {σ : zM} : zG (d + 1) 65 [.inr (.inr x0), .inl x1, .inl x2, .inl x3] σ = ((fun (G : Nat → List zV → zM → zR) (K : Nat → zL → List zV → zM → zR) => if ((σ.1 x0).1 : Int) = 5 then (G 58 [.inr (.inr x0), .inl x1] σ).bind fun q1 => K 15 [some (.inr (.inr x0)), some (.inl x1), none, none, some (.inl q1.1), some (.inl (zi_w (x3 - x2))), some (.inl x3)] [] q1.2 else none) (zG d) (zi_run zt_65 (zG d) 19999)) := (zG_eq zt_65 rfl rfl rfl).trans ze_65_0
set_option maxRecDepth 20000 in
theorem ze_65_15 {G : Nat → List zV → zM → zR} {K : Nat → zL → List zV → zM → zR} {x0 x1 x4 x5 x6 : Int} {σ : zM} : zi_fr zt_65 G K 600 15 [some (.inr (.inr x0)), some (.inl x1), none, none, some (.inl x4), some (.inl x5), some (.inl x6)] [] σ = (if (x6 : Int) < x4 then (if ((σ.1 x0).1 : Int) = 5 then (G 60 [.inr (.inr x0), .inl x1, .inl x6] σ).bind fun q2 => if ((q2.2.1 x0).1 : Int) = 5 then (G 71 [.inr (.inr x0), .inl x1, .inl (zi_w (x6 - x5)), .inl q2.1] q2.2).bind fun q3 => K 15 [some (.inr (.inr x0)), some (.inl x1), none, none, some (.inl x4), some (.inl x5), some (.inl (zi_w (x6 + 1)))] [] q3.2 else none else none) else (if (σ.1 x0).1 = 5 then (G 73 [.inr (.inr (σ.2.2.1 x0 1)), .inl x1, .inl (zi_w (x4 - x5))] σ).bind fun q1 => some (0, q1.2) else none)) := rfl
theorem zk_65_15 {G : Nat → List zV → zM → zR} {n : Nat} {x0 x1 x4 x5 x6 : Int} {σ : zM} : zi_run zt_65 G (n + 1) 15 [some (.inr (.inr x0)), some (.inl x1), none, none, some (.inl x4), some (.inl x5), some (.inl x6)] [] σ = ((fun (K : Nat → zL → List zV → zM → zR) => if (x6 : Int) < x4 then (if ((σ.1 x0).1 : Int) = 5 then (G 60 [.inr (.inr x0), .inl x1, .inl x6] σ).bind fun q2 => if ((q2.2.1 x0).1 : Int) = 5 then (G 71 [.inr (.inr x0), .inl x1, .inl (zi_w (x6 - x5)), .inl q2.1] q2.2).bind fun q3 => K 15 [some (.inr (.inr x0)), some (.inl x1), none, none, some (.inl x4), some (.inl x5), some (.inl (zi_w (x6 + 1)))] [] q3.2 else none else none) else (if (σ.1 x0).1 = 5 then (G 73 [.inr (.inr (σ.2.2.1 x0 1)), .inl x1, .inl (zi_w (x4 - x5))] σ).bind fun q1 => some (0, q1.2) else none)) (zi_run zt_65 G n)) := zi_run_succ.trans ze_65_15
-- FoldedRows$Lines.divide(II)V
set_option maxRecDepth 20000 in
theorem ze_66_0 {G : Nat → List zV → zM → zR} {K : Nat → zL → List zV → zM → zR} {x0 x1 x2 : Int} {σ : zM} : zi_fr zt_66 G K 600 0 [some (.inr (.inr x0)), some (.inl x1), some (.inl x2), none] [] σ = (if (σ.1 x0).1 = 5 then K 5 [some (.inr (.inr x0)), some (.inl x1), some (.inl x2), some (.inl (σ.2.1 x0 0))] [] σ else none) := rfl
theorem zm_66 {d : Nat} {x0 x1 x2 : Int} {σ : zM} : zG (d + 1) 66 [.inr (.inr x0), .inl x1, .inl x2] σ = ((fun (G : Nat → List zV → zM → zR) (K : Nat → zL → List zV → zM → zR) => if (σ.1 x0).1 = 5 then K 5 [some (.inr (.inr x0)), some (.inl x1), some (.inl x2), some (.inl (σ.2.1 x0 0))] [] σ else none) (zG d) (zi_run zt_66 (zG d) 19999)) := (zG_eq zt_66 rfl rfl rfl).trans ze_66_0
set_option maxRecDepth 20000 in
theorem ze_66_5 {G : Nat → List zV → zM → zR} {K : Nat → zL → List zV → zM → zR} {x0 x1 x2 x3 : Int} {σ : zM} : zi_fr zt_66 G K 600 5 [some (.inr (.inr x0)), some (.inl x1), some (.inl x2), some (.inl x3)] [] σ = (if ((zi_w (x1 + 1)) : Int) < x3 then (if ((σ.1 x0).1 : Int) = 5 then (G 69 [.inr (.inr x0), .inl (zi_w (x3 - 1)), .inl x3] σ).bind fun q5 => K 5 [some (.inr (.inr x0)), some (.inl x1), some (.inl x2), some (.inl (zi_w (x3 + (-1))))] [] q5.2 else none) else (if (σ.1 x0).1 = 5 then if (σ.1 x0).1 = 5 then let s1 : zM := zi_wr σ x0 0 (zi_w ((σ.2.1 x0 0) + 1)); if (s1.1 x0).1 = 5 then (G 73 [.inr (.inr (s1.2.2.1 x0 1)), .inl (zi_w (x1 + 1)), .inl 0] s1).bind fun q2 => if ((q2.2.1 x0).1 : Int) = 5 then (G 70 [.inr (.inr x0), .inl x1, .inl x2, .inl (zi_w (x1 + 1))] q2.2).bind fun q3 => if (q3.2.1 x0).1 = 5 then (G 73 [.inr (.inr (q3.2.2.2.1 x0 1)), .inl x1, .inl x2] q3.2).bind fun q4 => some (0, q4.2) else none else none else none else none else none)) := rfl
theorem zk_66_5 {G : Nat → List zV → zM → zR} {n : Nat} {x0 x1 x2 x3 : Int} {σ : zM} : zi_run zt_66 G (n + 1) 5 [some (.inr (.inr x0)), some (.inl x1), some (.inl x2), some (.inl x3)] [] σ = ((fun (K : Nat → zL → List zV → zM → zR) => if ((zi_w (x1 + 1)) : Int) < x3 then (if ((σ.1 x0).1 : Int) = 5 then (G 69 [.inr (.inr x0), .inl (zi_w (x3 - 1)), .inl x3] σ).bind fun q5 => K 5 [some (.inr (.inr x0)), some (.inl x1), some (.inl x2), some (.inl (zi_w (x3 + (-1))))] [] q5.2 else none) else (if (σ.1 x0).1 = 5 then if (σ.1 x0).1 = 5 then let s1 : zM := zi_wr σ x0 0 (zi_w ((σ.2.1 x0 0) + 1)); if (s1.1 x0).1 = 5 then (G 73 [.inr (.inr (s1.2.2.1 x0 1)), .inl (zi_w (x1 + 1)), .inl 0] s1).bind fun q2 => if ((q2.2.1 x0).1 : Int) = 5 then (G 70 [.inr (.inr x0), .inl x1, .inl x2, .inl (zi_w (x1 + 1))] q2.2).bind fun q3 => if (q3.2.1 x0).1 = 5 then (G 73 [.inr (.inr (q3.2.2.2.1 x0 1)), .inl x1, .inl x2] q3.2).bind fun q4 => some (0, q4.2) else none else none else none else none else none)) (zi_run zt_66 G n)) := zi_run_succ.trans ze_66_5
-- FoldedRows$Lines.joinWithNext(I)V
set_option maxRecDepth 20000 in
theorem ze_67_0 {G : Nat → List zV → zM → zR} {K : Nat → zL → List zV → zM → zR} {x0 x1 : Int} {σ : zM} : zi_fr zt_67 G K 600 0 [some (.inr (.inr x0)), some (.inl x1), none] [] σ = (if ((σ.1 x0).1 : Int) = 5 then (G 70 [.inr (.inr x0), .inl (zi_w (x1 + 1)), .inl 0, .inl x1] σ).bind fun q1 => if (q1.2.1 x0).1 = 5 then if (q1.2.1 x0).1 = 5 then let s2 : zM := zi_wr q1.2 x0 0 (zi_w ((q1.2.2.1 x0 0) - 1)); K 23 [some (.inr (.inr x0)), none, some (.inl (zi_w (x1 + 1)))] [] s2 else none else none else none) := rfl
theorem zm_67 {d : Nat} {x0 x1 : Int} {σ : zM} : zG (d + 1) 67 [.inr (.inr x0), .inl x1] σ = ((fun (G : Nat → List zV → zM → zR) (K : Nat → zL → List zV → zM → zR) => if ((σ.1 x0).1 : Int) = 5 then (G 70 [.inr (.inr x0), .inl (zi_w (x1 + 1)), .inl 0, .inl x1] σ).bind fun q1 => if (q1.2.1 x0).1 = 5 then if (q1.2.1 x0).1 = 5 then let s2 : zM := zi_wr q1.2 x0 0 (zi_w ((q1.2.2.1 x0 0) - 1)); K 23 [some (.inr (.inr x0)), none, some (.inl (zi_w (x1 + 1)))] [] s2 else none else none else none) (zG d) (zi_run zt_67 (zG d) 19999)) := (zG_eq zt_67 rfl rfl rfl).trans ze_67_0
set_option maxRecDepth 20000 in
theorem ze_67_23 {G : Nat → List zV → zM → zR} {K : Nat → zL → List zV → zM → zR} {x0 x2 : Int} {σ : zM} : zi_fr zt_67 G K 600 23 [some (.inr (.inr x0)), none, some (.inl x2)] [] σ = (if (σ.1 x0).1 = 5 then if (x2 : Int) < (σ.2.1 x0 0) then (if ((σ.1 x0).1 : Int) = 5 then (G 69 [.inr (.inr x0), .inl (zi_w (x2 + 1)), .inl x2] σ).bind fun q1 => K 23 [some (.inr (.inr x0)), none, some (.inl (zi_w (x2 + 1)))] [] q1.2 else none) else (some (0, σ)) else none) := rfl
theorem zk_67_23 {G : Nat → List zV → zM → zR} {n : Nat} {x0 x2 : Int} {σ : zM} : zi_run zt_67 G (n + 1) 23 [some (.inr (.inr x0)), none, some (.inl x2)] [] σ = ((fun (K : Nat → zL → List zV → zM → zR) => if (σ.1 x0).1 = 5 then if (x2 : Int) < (σ.2.1 x0 0) then (if ((σ.1 x0).1 : Int) = 5 then (G 69 [.inr (.inr x0), .inl (zi_w (x2 + 1)), .inl x2] σ).bind fun q1 => K 23 [some (.inr (.inr x0)), none, some (.inl (zi_w (x2 + 1)))] [] q1.2 else none) else (some (0, σ)) else none) (zi_run zt_67 G n)) := zi_run_succ.trans ze_67_23
-- FoldedRows$Lines.copyFrom(LFoldedRows$Lines;)V
set_option maxRecDepth 20000 in
theorem ze_68_0 {G : Nat → List zV → zM → zR} {K : Nat → zL → List zV → zM → zR} {x0 x1 : Int} {σ : zM} : zi_fr zt_68 G K 600 0 [some (.inr (.inr x0)), some (.inr (.inr x1))] [] σ = (if (σ.1 x1).1 = 5 then if (σ.1 x0).1 = 5 then let s1 : zM := zi_wr σ x0 0 (σ.2.1 x1 0); if (s1.1 x1).1 = 5 then if (s1.1 x0).1 = 5 then (G 74 [.inr (.inr (s1.2.2.1 x1 1)), .inr (.inr (s1.2.2.1 x0 1))] s1).bind fun q2 => if (q2.2.1 x1).1 = 5 then if (q2.2.1 x0).1 = 5 then (G 74 [.inr (.inr (q2.2.2.2.1 x1 2)), .inr (.inr (q2.2.2.2.1 x0 2))] q2.2).bind fun q3 => some (0, q3.2) else none else none else none else none else none else none) := rfl
theorem zm_68 {d : Nat} {x0 x1 : Int} {σ : zM} : zG (d + 1) 68 [.inr (.inr x0), .inr (.inr x1)] σ = ((fun (G : Nat → List zV → zM → zR) (K : Nat → zL → List zV → zM → zR) => if (σ.1 x1).1 = 5 then if (σ.1 x0).1 = 5 then let s1 : zM := zi_wr σ x0 0 (σ.2.1 x1 0); if (s1.1 x1).1 = 5 then if (s1.1 x0).1 = 5 then (G 74 [.inr (.inr (s1.2.2.1 x1 1)), .inr (.inr (s1.2.2.1 x0 1))] s1).bind fun q2 => if (q2.2.1 x1).1 = 5 then if (q2.2.1 x0).1 = 5 then (G 74 [.inr (.inr (q2.2.2.2.1 x1 2)), .inr (.inr (q2.2.2.2.1 x0 2))] q2.2).bind fun q3 => some (0, q3.2) else none else none else none else none else none else none) (zG d) (zi_run zt_68 (zG d) 19999)) := (zG_eq zt_68 rfl rfl rfl).trans ze_68_0
-- FoldedRows$Lines.copyLine(II)V
set_option maxRecDepth 20000 in
theorem ze_69_0 {G : Nat → List zV → zM → zR} {K : Nat → zL → List zV → zM → zR} {x0 x1 x2 : Int} {σ : zM} : zi_fr zt_69 G K 600 0 [some (.inr (.inr x0)), some (.inl x1), some (.inl x2)] [] σ = (if (σ.1 x0).1 = 5 then (G 73 [.inr (.inr (σ.2.2.1 x0 1)), .inl x2, .inl 0] σ).bind fun q1 => if ((q1.2.1 x0).1 : Int) = 5 then (G 70 [.inr (.inr x0), .inl x1, .inl 0, .inl x2] q1.2).bind fun q2 => some (0, q2.2) else none else none) := rfl
theorem zm_69 {d : Nat} {x0 x1 x2 : Int} {σ : zM} : zG (d + 1) 69 [.inr (.inr x0), .inl x1, .inl x2] σ = ((fun (G : Nat → List zV → zM → zR) (K : Nat → zL → List zV → zM → zR) => if (σ.1 x0).1 = 5 then (G 73 [.inr (.inr (σ.2.2.1 x0 1)), .inl x2, .inl 0] σ).bind fun q1 => if ((q1.2.1 x0).1 : Int) = 5 then (G 70 [.inr (.inr x0), .inl x1, .inl 0, .inl x2] q1.2).bind fun q2 => some (0, q2.2) else none else none) (zG d) (zi_run zt_69 (zG d) 19999)) := (zG_eq zt_69 rfl rfl rfl).trans ze_69_0
-- FoldedRows$Lines.appendPart(III)V
set_option maxRecDepth 20000 in
theorem ze_70_0 {G : Nat → List zV → zM → zR} {K : Nat → zL → List zV → zM → zR} {x0 x1 x2 x3 : Int} {σ : zM} : zi_fr zt_70 G K 600 0 [some (.inr (.inr x0)), some (.inl x1), some (.inl x2), some (.inl x3), none, none] [] σ = (if ((σ.1 x0).1 : Int) = 5 then (G 58 [.inr (.inr x0), .inl x1] σ).bind fun q1 => K 10 [some (.inr (.inr x0)), some (.inl x1), none, some (.inl x3), some (.inl q1.1), some (.inl x2)] [] q1.2 else none) := rfl
theorem zm_70 {d : Nat} {x0 x1 x2 x3 : Int} {σ : zM} : zG (d + 1) 70 [.inr (.inr x0), .inl x1, .inl x2, .inl x3] σ = ((fun (G : Nat → List zV → zM → zR) (K : Nat → zL → List zV → zM → zR) => if ((σ.1 x0).1 : Int) = 5 then (G 58 [.inr (.inr x0), .inl x1] σ).bind fun q1 => K 10 [some (.inr (.inr x0)), some (.inl x1), none, some (.inl x3), some (.inl q1.1), some (.inl x2)] [] q1.2 else none) (zG d) (zi_run zt_70 (zG d) 19999)) := (zG_eq zt_70 rfl rfl rfl).trans ze_70_0
set_option maxRecDepth 20000 in
theorem ze_70_10 {G : Nat → List zV → zM → zR} {K : Nat → zL → List zV → zM → zR} {x0 x1 x3 x4 x5 : Int} {σ : zM} : zi_fr zt_70 G K 600 10 [some (.inr (.inr x0)), some (.inl x1), none, some (.inl x3), some (.inl x4), some (.inl x5)] [] σ = (if (x5 : Int) < x4 then (if ((σ.1 x0).1 : Int) = 5 then (G 60 [.inr (.inr x0), .inl x1, .inl x5] σ).bind fun q1 => if ((q1.2.1 x0).1 : Int) = 5 then (G 63 [.inr (.inr x0), .inl x3, .inl q1.1] q1.2).bind fun q2 => K 10 [some (.inr (.inr x0)), some (.inl x1), none, some (.inl x3), some (.inl x4), some (.inl (zi_w (x5 + 1)))] [] q2.2 else none else none) else (some (0, σ))) := rfl
theorem zk_70_10 {G : Nat → List zV → zM → zR} {n : Nat} {x0 x1 x3 x4 x5 : Int} {σ : zM} : zi_run zt_70 G (n + 1) 10 [some (.inr (.inr x0)), some (.inl x1), none, some (.inl x3), some (.inl x4), some (.inl x5)] [] σ = ((fun (K : Nat → zL → List zV → zM → zR) => if (x5 : Int) < x4 then (if ((σ.1 x0).1 : Int) = 5 then (G 60 [.inr (.inr x0), .inl x1, .inl x5] σ).bind fun q1 => if ((q1.2.1 x0).1 : Int) = 5 then (G 63 [.inr (.inr x0), .inl x3, .inl q1.1] q1.2).bind fun q2 => K 10 [some (.inr (.inr x0)), some (.inl x1), none, some (.inl x3), some (.inl x4), some (.inl (zi_w (x5 + 1)))] [] q2.2 else none else none) else (some (0, σ))) (zi_run zt_70 G n)) := zi_run_succ.trans ze_70_10
-- FoldedRows$Lines.writeSign(III)V
set_option maxRecDepth 20000 in
theorem ze_71_0 {G : Nat → List zV → zM → zR} {K : Nat → zL → List zV → zM → zR} {x0 x1 x2 x3 : Int} {σ : zM} : zi_fr zt_71 G K 600 0 [some (.inr (.inr x0)), some (.inl x1), some (.inl x2), some (.inl x3)] [] σ = (if (σ.1 x0).1 = 5 then (G 73 [.inr (.inr (σ.2.2.1 x0 2)), .inl (zi_w ((zi_w (x1 * 40)) + x2)), .inl x3] σ).bind fun q1 => some (0, q1.2) else none) := rfl
theorem zm_71 {d : Nat} {x0 x1 x2 x3 : Int} {σ : zM} : zG (d + 1) 71 [.inr (.inr x0), .inl x1, .inl x2, .inl x3] σ = ((fun (G : Nat → List zV → zM → zR) (K : Nat → zL → List zV → zM → zR) => if (σ.1 x0).1 = 5 then (G 73 [.inr (.inr (σ.2.2.1 x0 2)), .inl (zi_w ((zi_w (x1 * 40)) + x2)), .inl x3] σ).bind fun q1 => some (0, q1.2) else none) (zG d) (zi_run zt_71 (zG d) 19999)) := (zG_eq zt_71 rfl rfl rfl).trans ze_71_0
-- FoldedRows$Numbers.pick([II)I
set_option maxRecDepth 20000 in
theorem ze_72_0 {G : Nat → List zV → zM → zR} {K : Nat → zL → List zV → zM → zR} {x0 x1 : Int} {σ : zM} : zi_fr zt_72 G K 600 0 [some (.inr (.inr x0)), some (.inl x1)] [] σ = (if x0 = 0 then (some (0, σ)) else (if (x1 : Int) < 0 then (some (0, σ)) else (if (σ.1 x0).1 = 12 then if (x1 : Int) < (σ.1 x0).2 then (if (σ.1 x0).1 = 12 ∧ (0 : Int) ≤ x1 ∧ x1 < (σ.1 x0).2 then some ((σ.2.1 x0 x1), σ) else none) else (some (0, σ)) else none))) := rfl
theorem zm_72 {d : Nat} {x0 x1 : Int} {σ : zM} : zG (d + 1) 72 [.inr (.inr x0), .inl x1] σ = ((fun (G : Nat → List zV → zM → zR) (K : Nat → zL → List zV → zM → zR) => if x0 = 0 then (some (0, σ)) else (if (x1 : Int) < 0 then (some (0, σ)) else (if (σ.1 x0).1 = 12 then if (x1 : Int) < (σ.1 x0).2 then (if (σ.1 x0).1 = 12 ∧ (0 : Int) ≤ x1 ∧ x1 < (σ.1 x0).2 then some ((σ.2.1 x0 x1), σ) else none) else (some (0, σ)) else none))) (zG d) (zi_run zt_72 (zG d) 19999)) := (zG_eq zt_72 rfl rfl rfl).trans ze_72_0
-- FoldedRows$Numbers.put([III)V
set_option maxRecDepth 20000 in
theorem ze_73_0 {G : Nat → List zV → zM → zR} {K : Nat → zL → List zV → zM → zR} {x0 x1 x2 : Int} {σ : zM} : zi_fr zt_73 G K 600 0 [some (.inr (.inr x0)), some (.inl x1), some (.inl x2)] [] σ = (if x0 = 0 then (some (0, σ)) else (if (x1 : Int) < 0 then (some (0, σ)) else (if (σ.1 x0).1 = 12 then if (x1 : Int) < (σ.1 x0).2 then (if (σ.1 x0).1 = 12 ∧ (0 : Int) ≤ x1 ∧ x1 < (σ.1 x0).2 then let s1 : zM := zi_wr σ x0 x1 x2; some (0, s1) else none) else (some (0, σ)) else none))) := rfl
theorem zm_73 {d : Nat} {x0 x1 x2 : Int} {σ : zM} : zG (d + 1) 73 [.inr (.inr x0), .inl x1, .inl x2] σ = ((fun (G : Nat → List zV → zM → zR) (K : Nat → zL → List zV → zM → zR) => if x0 = 0 then (some (0, σ)) else (if (x1 : Int) < 0 then (some (0, σ)) else (if (σ.1 x0).1 = 12 then if (x1 : Int) < (σ.1 x0).2 then (if (σ.1 x0).1 = 12 ∧ (0 : Int) ≤ x1 ∧ x1 < (σ.1 x0).2 then let s1 : zM := zi_wr σ x0 x1 x2; some (0, s1) else none) else (some (0, σ)) else none))) (zG d) (zi_run zt_73 (zG d) 19999)) := (zG_eq zt_73 rfl rfl rfl).trans ze_73_0
-- FoldedRows$Numbers.copy([I[I)V
set_option maxRecDepth 20000 in
theorem ze_74_0 {G : Nat → List zV → zM → zR} {K : Nat → zL → List zV → zM → zR} {x0 x1 : Int} {σ : zM} : zi_fr zt_74 G K 600 0 [some (.inr (.inr x0)), some (.inr (.inr x1))] [] σ = (if x0 = 0 then (some (0, σ)) else (if x1 = 0 then (some (0, σ)) else (if (σ.1 x0).1 = 12 then if (σ.1 x1).1 = 12 then (G 1002 [.inl (σ.1 x0).2, .inl (σ.1 x1).2] σ).bind fun q1 => (G 1005 [.inr (.inr x0), .inl 0, .inr (.inr x1), .inl 0, .inl q1.1] q1.2).bind fun q2 => some (0, q2.2) else none else none))) := rfl
theorem zm_74 {d : Nat} {x0 x1 : Int} {σ : zM} : zG (d + 1) 74 [.inr (.inr x0), .inr (.inr x1)] σ = ((fun (G : Nat → List zV → zM → zR) (K : Nat → zL → List zV → zM → zR) => if x0 = 0 then (some (0, σ)) else (if x1 = 0 then (some (0, σ)) else (if (σ.1 x0).1 = 12 then if (σ.1 x1).1 = 12 then (G 1002 [.inl (σ.1 x0).2, .inl (σ.1 x1).2] σ).bind fun q1 => (G 1005 [.inr (.inr x0), .inl 0, .inr (.inr x1), .inl 0, .inl q1.1] q1.2).bind fun q2 => some (0, q2.2) else none else none))) (zG d) (zi_run zt_74 (zG d) 19999)) := (zG_eq zt_74 rfl rfl rfl).trans ze_74_0
-- FoldedRows$Numbers.sum([II)I
set_option maxRecDepth 20000 in
theorem ze_75_0 {G : Nat → List zV → zM → zR} {K : Nat → zL → List zV → zM → zR} {x0 x1 : Int} {σ : zM} : zi_fr zt_75 G K 600 0 [some (.inr (.inr x0)), some (.inl x1), none, none] [] σ = (K 4 [some (.inr (.inr x0)), some (.inl x1), some (.inl 0), some (.inl 0)] [] σ) := rfl
theorem zm_75 {d : Nat} {x0 x1 : Int} {σ : zM} : zG (d + 1) 75 [.inr (.inr x0), .inl x1] σ = ((fun (G : Nat → List zV → zM → zR) (K : Nat → zL → List zV → zM → zR) => K 4 [some (.inr (.inr x0)), some (.inl x1), some (.inl 0), some (.inl 0)] [] σ) (zG d) (zi_run zt_75 (zG d) 19999)) := (zG_eq zt_75 rfl rfl rfl).trans ze_75_0
set_option maxRecDepth 20000 in
theorem ze_75_4 {G : Nat → List zV → zM → zR} {K : Nat → zL → List zV → zM → zR} {x0 x1 x2 x3 : Int} {σ : zM} : zi_fr zt_75 G K 600 4 [some (.inr (.inr x0)), some (.inl x1), some (.inl x2), some (.inl x3)] [] σ = (if (x3 : Int) < x1 then ((G 72 [.inr (.inr x0), .inl x3] σ).bind fun q1 => K 4 [some (.inr (.inr x0)), some (.inl x1), some (.inl (zi_w (x2 + q1.1))), some (.inl (zi_w (x3 + 1)))] [] q1.2) else (some (x2, σ))) := rfl
theorem zk_75_4 {G : Nat → List zV → zM → zR} {n : Nat} {x0 x1 x2 x3 : Int} {σ : zM} : zi_run zt_75 G (n + 1) 4 [some (.inr (.inr x0)), some (.inl x1), some (.inl x2), some (.inl x3)] [] σ = ((fun (K : Nat → zL → List zV → zM → zR) => if (x3 : Int) < x1 then ((G 72 [.inr (.inr x0), .inl x3] σ).bind fun q1 => K 4 [some (.inr (.inr x0)), some (.inl x1), some (.inl (zi_w (x2 + q1.1))), some (.inl (zi_w (x3 + 1)))] [] q1.2) else (some (x2, σ))) (zi_run zt_75 G n)) := zi_run_succ.trans ze_75_4
-- FoldedRows$Screen.<init>()V
set_option maxRecDepth 20000 in
theorem ze_76_0 {G : Nat → List zV → zM → zR} {K : Nat → zL → List zV → zM → zR} {x0 : Int} {σ : zM} : zi_fr zt_76 G K 600 0 [some (.inr (.inr x0)), none] [] σ = (if ((σ.1 x0).1 : Int) = 6 then (G 1000 [.inr (.inr x0)] σ).bind fun q1 => if (0 : Int) ≤ 12 ∧ (12 : Int) ≤ 100000 then let s2 : zM := zi_new q1.2 16 12 (Int.toNat 12); if (s2.1 x0).1 = 6 then let s3 : zM := zi_wq s2 x0 0 q1.2.2.2.2.1; let s4 : zM := zi_new s3 4 0 11; if ((s4.1 s3.2.2.2.1).1 : Int) = 4 then (G 33 [.inr (.inr s3.2.2.2.1)] s4).bind fun q5 => if (q5.2.1 x0).1 = 6 then let s6 : zM := zi_wq q5.2 x0 1 s3.2.2.2.1; K 26 [some (.inr (.inr x0)), some (.inl 0)] [] s6 else none else none else none else none else none) := rfl
theorem zm_76 {d : Nat} {x0 : Int} {σ : zM} : zG (d + 1) 76 [.inr (.inr x0)] σ = ((fun (G : Nat → List zV → zM → zR) (K : Nat → zL → List zV → zM → zR) => if ((σ.1 x0).1 : Int) = 6 then (G 1000 [.inr (.inr x0)] σ).bind fun q1 => if (0 : Int) ≤ 12 ∧ (12 : Int) ≤ 100000 then let s2 : zM := zi_new q1.2 16 12 (Int.toNat 12); if (s2.1 x0).1 = 6 then let s3 : zM := zi_wq s2 x0 0 q1.2.2.2.2.1; let s4 : zM := zi_new s3 4 0 11; if ((s4.1 s3.2.2.2.1).1 : Int) = 4 then (G 33 [.inr (.inr s3.2.2.2.1)] s4).bind fun q5 => if (q5.2.1 x0).1 = 6 then let s6 : zM := zi_wq q5.2 x0 1 s3.2.2.2.1; K 26 [some (.inr (.inr x0)), some (.inl 0)] [] s6 else none else none else none else none else none) (zG d) (zi_run zt_76 (zG d) 19999)) := (zG_eq zt_76 rfl rfl rfl).trans ze_76_0
set_option maxRecDepth 20000 in
theorem ze_76_26 {G : Nat → List zV → zM → zR} {K : Nat → zL → List zV → zM → zR} {x0 x1 : Int} {σ : zM} : zi_fr zt_76 G K 600 26 [some (.inr (.inr x0)), some (.inl x1)] [] σ = (if (σ.1 x0).1 = 6 then if (σ.1 (σ.2.2.1 x0 0)).1 = 16 then if (x1 : Int) < (σ.1 (σ.2.2.1 x0 0)).2 then (if (σ.1 x0).1 = 6 then let s1 : zM := zi_new σ 4 0 11; if ((s1.1 σ.2.2.2.1).1 : Int) = 4 then (G 33 [.inr (.inr σ.2.2.2.1)] s1).bind fun q2 => if ((q2.2.1 (σ.2.2.1 x0 0)).1 = 16 ∧ (0 : Int) ≤ x1 ∧ x1 < (q2.2.1 (σ.2.2.1 x0 0)).2) ∧ ((q2.2.1 σ.2.2.2.1).1 : Int) = 4 then let s3 : zM := zi_wq q2.2 (σ.2.2.1 x0 0) x1 σ.2.2.2.1; K 26 [some (.inr (.inr x0)), some (.inl (zi_w (x1 + 1)))] [] s3 else none else none else none) else (some (0, σ)) else none else none) := rfl
theorem zk_76_26 {G : Nat → List zV → zM → zR} {n : Nat} {x0 x1 : Int} {σ : zM} : zi_run zt_76 G (n + 1) 26 [some (.inr (.inr x0)), some (.inl x1)] [] σ = ((fun (K : Nat → zL → List zV → zM → zR) => if (σ.1 x0).1 = 6 then if (σ.1 (σ.2.2.1 x0 0)).1 = 16 then if (x1 : Int) < (σ.1 (σ.2.2.1 x0 0)).2 then (if (σ.1 x0).1 = 6 then let s1 : zM := zi_new σ 4 0 11; if ((s1.1 σ.2.2.2.1).1 : Int) = 4 then (G 33 [.inr (.inr σ.2.2.2.1)] s1).bind fun q2 => if ((q2.2.1 (σ.2.2.1 x0 0)).1 = 16 ∧ (0 : Int) ≤ x1 ∧ x1 < (q2.2.1 (σ.2.2.1 x0 0)).2) ∧ ((q2.2.1 σ.2.2.2.1).1 : Int) = 4 then let s3 : zM := zi_wq q2.2 (σ.2.2.1 x0 0) x1 σ.2.2.2.1; K 26 [some (.inr (.inr x0)), some (.inl (zi_w (x1 + 1)))] [] s3 else none else none else none) else (some (0, σ)) else none else none) (zi_run zt_76 G n)) := zi_run_succ.trans ze_76_26
-- FoldedRows$Screen.laidLine(I)LFoldedRows$LaidLine;
set_option maxRecDepth 20000 in
theorem ze_77_0 {G : Nat → List zV → zM → zR} {K : Nat → zL → List zV → zM → zR} {x0 x1 : Int} {σ : zM} : zi_fr zt_77 G K 600 0 [some (.inr (.inr x0)), some (.inl x1), none] [] σ = (if (x1 : Int) < 0 then (K 23 [some (.inr (.inr x0)), none, none] [.inr (.inr 0)] σ) else (if (σ.1 x0).1 = 6 then if (σ.1 (σ.2.2.1 x0 0)).1 = 16 then if (x1 : Int) < (σ.1 (σ.2.2.1 x0 0)).2 then (if (σ.1 x0).1 = 6 then if (σ.1 (σ.2.2.1 x0 0)).1 = 16 ∧ (0 : Int) ≤ x1 ∧ x1 < (σ.1 (σ.2.2.1 x0 0)).2 then K 23 [some (.inr (.inr x0)), none, none] [.inr (.inr (σ.2.2.1 (σ.2.2.1 x0 0) x1))] σ else none else none) else (K 23 [some (.inr (.inr x0)), none, none] [.inr (.inr 0)] σ) else none else none)) := rfl
theorem zm_77 {d : Nat} {x0 x1 : Int} {σ : zM} : zG (d + 1) 77 [.inr (.inr x0), .inl x1] σ = ((fun (G : Nat → List zV → zM → zR) (K : Nat → zL → List zV → zM → zR) => if (x1 : Int) < 0 then (K 23 [some (.inr (.inr x0)), none, none] [.inr (.inr 0)] σ) else (if (σ.1 x0).1 = 6 then if (σ.1 (σ.2.2.1 x0 0)).1 = 16 then if (x1 : Int) < (σ.1 (σ.2.2.1 x0 0)).2 then (if (σ.1 x0).1 = 6 then if (σ.1 (σ.2.2.1 x0 0)).1 = 16 ∧ (0 : Int) ≤ x1 ∧ x1 < (σ.1 (σ.2.2.1 x0 0)).2 then K 23 [some (.inr (.inr x0)), none, none] [.inr (.inr (σ.2.2.1 (σ.2.2.1 x0 0) x1))] σ else none else none) else (K 23 [some (.inr (.inr x0)), none, none] [.inr (.inr 0)] σ) else none else none)) (zG d) (zi_run zt_77 (zG d) 19999)) := (zG_eq zt_77 rfl rfl rfl).trans ze_77_0
set_option maxRecDepth 20000 in
theorem ze_77_23 {G : Nat → List zV → zM → zR} {K : Nat → zL → List zV → zM → zR} {x0 y0 : Int} {σ : zM} : zi_fr zt_77 G K 600 23 [some (.inr (.inr x0)), none, none] [.inr (.inr y0)] σ = (if y0 = 0 then (if (σ.1 x0).1 = 6 then some ((σ.2.2.1 x0 1), σ) else none) else (some (y0, σ))) := rfl
theorem zk_77_23 {G : Nat → List zV → zM → zR} {n : Nat} {x0 y0 : Int} {σ : zM} : zi_run zt_77 G (n + 1) 23 [some (.inr (.inr x0)), none, none] [.inr (.inr y0)] σ = ((fun (K : Nat → zL → List zV → zM → zR) => if y0 = 0 then (if (σ.1 x0).1 = 6 then some ((σ.2.2.1 x0 1), σ) else none) else (some (y0, σ))) (zi_run zt_77 G n)) := zi_run_succ.trans ze_77_23
-- FoldedRows$Screen.layLines(LFoldedRows$Lines;LFoldedRows$Settings;)V
set_option maxRecDepth 20000 in
theorem ze_78_0 {G : Nat → List zV → zM → zR} {K : Nat → zL → List zV → zM → zR} {x0 x1 x2 : Int} {σ : zM} : zi_fr zt_78 G K 600 0 [some (.inr (.inr x0)), some (.inr (.inr x1)), some (.inr (.inr x2)), none] [] σ = (K 2 [some (.inr (.inr x0)), some (.inr (.inr x1)), some (.inr (.inr x2)), some (.inl 0)] [] σ) := rfl
theorem zm_78 {d : Nat} {x0 x1 x2 : Int} {σ : zM} : zG (d + 1) 78 [.inr (.inr x0), .inr (.inr x1), .inr (.inr x2)] σ = ((fun (G : Nat → List zV → zM → zR) (K : Nat → zL → List zV → zM → zR) => K 2 [some (.inr (.inr x0)), some (.inr (.inr x1)), some (.inr (.inr x2)), some (.inl 0)] [] σ) (zG d) (zi_run zt_78 (zG d) 19999)) := (zG_eq zt_78 rfl rfl rfl).trans ze_78_0
set_option maxRecDepth 20000 in
theorem ze_78_2 {G : Nat → List zV → zM → zR} {K : Nat → zL → List zV → zM → zR} {x0 x1 x2 x3 : Int} {σ : zM} : zi_fr zt_78 G K 600 2 [some (.inr (.inr x0)), some (.inr (.inr x1)), some (.inr (.inr x2)), some (.inl x3)] [] σ = (if (σ.1 x1).1 = 5 then if (x3 : Int) < (σ.2.1 x1 0) then (if ((σ.1 x0).1 : Int) = 6 then (G 77 [.inr (.inr x0), .inl x3] σ).bind fun q1 => if ((q1.2.1 q1.1).1 : Int) = 4 then (G 34 [.inr (.inr q1.1), .inr (.inr x1), .inl x3, .inr (.inr x2)] q1.2).bind fun q2 => K 2 [some (.inr (.inr x0)), some (.inr (.inr x1)), some (.inr (.inr x2)), some (.inl (zi_w (x3 + 1)))] [] q2.2 else none else none) else (some (0, σ)) else none) := rfl
theorem zk_78_2 {G : Nat → List zV → zM → zR} {n : Nat} {x0 x1 x2 x3 : Int} {σ : zM} : zi_run zt_78 G (n + 1) 2 [some (.inr (.inr x0)), some (.inr (.inr x1)), some (.inr (.inr x2)), some (.inl x3)] [] σ = ((fun (K : Nat → zL → List zV → zM → zR) => if (σ.1 x1).1 = 5 then if (x3 : Int) < (σ.2.1 x1 0) then (if ((σ.1 x0).1 : Int) = 6 then (G 77 [.inr (.inr x0), .inl x3] σ).bind fun q1 => if ((q1.2.1 q1.1).1 : Int) = 4 then (G 34 [.inr (.inr q1.1), .inr (.inr x1), .inl x3, .inr (.inr x2)] q1.2).bind fun q2 => K 2 [some (.inr (.inr x0)), some (.inr (.inr x1)), some (.inr (.inr x2)), some (.inl (zi_w (x3 + 1)))] [] q2.2 else none else none) else (some (0, σ)) else none) (zi_run zt_78 G n)) := zi_run_succ.trans ze_78_2
-- FoldedRows$Screen.rowCount(LFoldedRows$Frame;)I
set_option maxRecDepth 20000 in
theorem ze_79_0 {G : Nat → List zV → zM → zR} {K : Nat → zL → List zV → zM → zR} {x0 x1 : Int} {σ : zM} : zi_fr zt_79 G K 600 0 [some (.inr (.inr x0)), some (.inr (.inr x1))] [] σ = (if (σ.1 x1).1 = 1 then if (σ.1 (σ.2.2.1 x1 0)).1 = 5 then if ((σ.1 x0).1 : Int) = 6 then (G 80 [.inr (.inr x0), .inr (.inr x1), .inl (σ.2.1 (σ.2.2.1 x1 0) 0)] σ).bind fun q1 => some (q1.1, q1.2) else none else none else none) := rfl
theorem zm_79 {d : Nat} {x0 x1 : Int} {σ : zM} : zG (d + 1) 79 [.inr (.inr x0), .inr (.inr x1)] σ = ((fun (G : Nat → List zV → zM → zR) (K : Nat → zL → List zV → zM → zR) => if (σ.1 x1).1 = 1 then if (σ.1 (σ.2.2.1 x1 0)).1 = 5 then if ((σ.1 x0).1 : Int) = 6 then (G 80 [.inr (.inr x0), .inr (.inr x1), .inl (σ.2.1 (σ.2.2.1 x1 0) 0)] σ).bind fun q1 => some (q1.1, q1.2) else none else none else none) (zG d) (zi_run zt_79 (zG d) 19999)) := (zG_eq zt_79 rfl rfl rfl).trans ze_79_0
-- FoldedRows$Screen.firstRowOf(LFoldedRows$Frame;I)I
set_option maxRecDepth 20000 in
theorem ze_80_0 {G : Nat → List zV → zM → zR} {K : Nat → zL → List zV → zM → zR} {x0 x1 x2 : Int} {σ : zM} : zi_fr zt_80 G K 600 0 [some (.inr (.inr x0)), some (.inr (.inr x1)), some (.inl x2), none, none] [] σ = (K 5 [some (.inr (.inr x0)), some (.inr (.inr x1)), some (.inl x2), some (.inl 0), some (.inl 0)] [] σ) := rfl
theorem zm_80 {d : Nat} {x0 x1 x2 : Int} {σ : zM} : zG (d + 1) 80 [.inr (.inr x0), .inr (.inr x1), .inl x2] σ = ((fun (G : Nat → List zV → zM → zR) (K : Nat → zL → List zV → zM → zR) => K 5 [some (.inr (.inr x0)), some (.inr (.inr x1)), some (.inl x2), some (.inl 0), some (.inl 0)] [] σ) (zG d) (zi_run zt_80 (zG d) 19999)) := (zG_eq zt_80 rfl rfl rfl).trans ze_80_0
set_option maxRecDepth 20000 in
theorem ze_80_5 {G : Nat → List zV → zM → zR} {K : Nat → zL → List zV → zM → zR} {x0 x1 x2 x3 x4 : Int} {σ : zM} : zi_fr zt_80 G K 600 5 [some (.inr (.inr x0)), some (.inr (.inr x1)), some (.inl x2), some (.inl x3), some (.inl x4)] [] σ = (if (x4 : Int) < x2 then (if (σ.1 x1).1 = 1 then if ((σ.1 (σ.2.2.1 x1 1)).1 : Int) = 0 then (G 8 [.inr (.inr (σ.2.2.1 x1 1)), .inl x4] σ).bind fun q1 => if (q1.1 : Int) = 0 then (if ((q1.2.1 x0).1 : Int) = 6 then (G 77 [.inr (.inr x0), .inl x4] q1.2).bind fun q2 => if (q2.2.1 q2.1).1 = 4 then K 5 [some (.inr (.inr x0)), some (.inr (.inr x1)), some (.inl x2), some (.inl (zi_w (x3 + (q2.2.2.1 q2.1 1)))), some (.inl (zi_w (x4 + 1)))] [] q2.2 else none else none) else (K 5 [some (.inr (.inr x0)), some (.inr (.inr x1)), some (.inl x2), some (.inl x3), some (.inl (zi_w (x4 + 1)))] [] q1.2) else none else none) else (some (x3, σ))) := rfl
theorem zk_80_5 {G : Nat → List zV → zM → zR} {n : Nat} {x0 x1 x2 x3 x4 : Int} {σ : zM} : zi_run zt_80 G (n + 1) 5 [some (.inr (.inr x0)), some (.inr (.inr x1)), some (.inl x2), some (.inl x3), some (.inl x4)] [] σ = ((fun (K : Nat → zL → List zV → zM → zR) => if (x4 : Int) < x2 then (if (σ.1 x1).1 = 1 then if ((σ.1 (σ.2.2.1 x1 1)).1 : Int) = 0 then (G 8 [.inr (.inr (σ.2.2.1 x1 1)), .inl x4] σ).bind fun q1 => if (q1.1 : Int) = 0 then (if ((q1.2.1 x0).1 : Int) = 6 then (G 77 [.inr (.inr x0), .inl x4] q1.2).bind fun q2 => if (q2.2.1 q2.1).1 = 4 then K 5 [some (.inr (.inr x0)), some (.inr (.inr x1)), some (.inl x2), some (.inl (zi_w (x3 + (q2.2.2.1 q2.1 1)))), some (.inl (zi_w (x4 + 1)))] [] q2.2 else none else none) else (K 5 [some (.inr (.inr x0)), some (.inr (.inr x1)), some (.inl x2), some (.inl x3), some (.inl (zi_w (x4 + 1)))] [] q1.2) else none else none) else (some (x3, σ))) (zi_run zt_80 G n)) := zi_run_succ.trans ze_80_5
-- FoldedRows$Screen.rowOf(LFoldedRows$Frame;II)I
set_option maxRecDepth 20000 in
theorem ze_81_0 {G : Nat → List zV → zM → zR} {K : Nat → zL → List zV → zM → zR} {x0 x1 x2 x3 : Int} {σ : zM} : zi_fr zt_81 G K 600 0 [some (.inr (.inr x0)), some (.inr (.inr x1)), some (.inl x2), some (.inl x3)] [] σ = (if ((σ.1 x0).1 : Int) = 6 then (G 80 [.inr (.inr x0), .inr (.inr x1), .inl x2] σ).bind fun q1 => if ((q1.2.1 x0).1 : Int) = 6 then (G 77 [.inr (.inr x0), .inl x2] q1.2).bind fun q2 => if ((q2.2.1 q2.1).1 : Int) = 4 then (G 40 [.inr (.inr q2.1), .inl x3] q2.2).bind fun q3 => some ((zi_w (q1.1 + q3.1)), q3.2) else none else none else none) := rfl
theorem zm_81 {d : Nat} {x0 x1 x2 x3 : Int} {σ : zM} : zG (d + 1) 81 [.inr (.inr x0), .inr (.inr x1), .inl x2, .inl x3] σ = ((fun (G : Nat → List zV → zM → zR) (K : Nat → zL → List zV → zM → zR) => if ((σ.1 x0).1 : Int) = 6 then (G 80 [.inr (.inr x0), .inr (.inr x1), .inl x2] σ).bind fun q1 => if ((q1.2.1 x0).1 : Int) = 6 then (G 77 [.inr (.inr x0), .inl x2] q1.2).bind fun q2 => if ((q2.2.1 q2.1).1 : Int) = 4 then (G 40 [.inr (.inr q2.1), .inl x3] q2.2).bind fun q3 => some ((zi_w (q1.1 + q3.1)), q3.2) else none else none else none) (zG d) (zi_run zt_81 (zG d) 19999)) := (zG_eq zt_81 rfl rfl rfl).trans ze_81_0
-- FoldedRows$Screen.lineOfRow(LFoldedRows$Frame;I)I
set_option maxRecDepth 20000 in
theorem ze_82_0 {G : Nat → List zV → zM → zR} {K : Nat → zL → List zV → zM → zR} {x0 x1 x2 : Int} {σ : zM} : zi_fr zt_82 G K 600 0 [some (.inr (.inr x0)), some (.inr (.inr x1)), some (.inl x2), none, none, none] [] σ = (if (x2 : Int) < 0 then (some ((-1), σ)) else (K 11 [some (.inr (.inr x0)), some (.inr (.inr x1)), none, some (.inl x2), some (.inl 0), none] [] σ)) := rfl
theorem zm_82 {d : Nat} {x0 x1 x2 : Int} {σ : zM} : zG (d + 1) 82 [.inr (.inr x0), .inr (.inr x1), .inl x2] σ = ((fun (G : Nat → List zV → zM → zR) (K : Nat → zL → List zV → zM → zR) => if (x2 : Int) < 0 then (some ((-1), σ)) else (K 11 [some (.inr (.inr x0)), some (.inr (.inr x1)), none, some (.inl x2), some (.inl 0), none] [] σ)) (zG d) (zi_run zt_82 (zG d) 19999)) := (zG_eq zt_82 rfl rfl rfl).trans ze_82_0
set_option maxRecDepth 20000 in
theorem ze_82_11 {G : Nat → List zV → zM → zR} {K : Nat → zL → List zV → zM → zR} {x0 x1 x3 x4 : Int} {σ : zM} : zi_fr zt_82 G K 600 11 [some (.inr (.inr x0)), some (.inr (.inr x1)), none, some (.inl x3), some (.inl x4), none] [] σ = (if (σ.1 x1).1 = 1 then if (σ.1 (σ.2.2.1 x1 0)).1 = 5 then if (x4 : Int) < (σ.2.1 (σ.2.2.1 x1 0) 0) then (if (σ.1 x1).1 = 1 then if ((σ.1 (σ.2.2.1 x1 1)).1 : Int) = 0 then (G 8 [.inr (.inr (σ.2.2.1 x1 1)), .inl x4] σ).bind fun q1 => if (q1.1 : Int) = 0 then (if ((q1.2.1 x0).1 : Int) = 6 then (G 77 [.inr (.inr x0), .inl x4] q1.2).bind fun q2 => if (q2.2.1 q2.1).1 = 4 then if (x3 : Int) < (q2.2.2.1 q2.1 1) then (some (x4, q2.2)) else (K 11 [some (.inr (.inr x0)), some (.inr (.inr x1)), none, some (.inl (zi_w (x3 - (q2.2.2.1 q2.1 1)))), some (.inl (zi_w (x4 + 1))), none] [] q2.2) else none else none) else (if (x3 : Int) < 0 then (some (x4, q1.2)) else (K 11 [some (.inr (.inr x0)), some (.inr (.inr x1)), none, some (.inl (zi_w (x3 - 0))), some (.inl (zi_w (x4 + 1))), none] [] q1.2)) else none else none) else (some ((-1), σ)) else none else none) := rfl
theorem zk_82_11 {G : Nat → List zV → zM → zR} {n : Nat} {x0 x1 x3 x4 : Int} {σ : zM} : zi_run zt_82 G (n + 1) 11 [some (.inr (.inr x0)), some (.inr (.inr x1)), none, some (.inl x3), some (.inl x4), none] [] σ = ((fun (K : Nat → zL → List zV → zM → zR) => if (σ.1 x1).1 = 1 then if (σ.1 (σ.2.2.1 x1 0)).1 = 5 then if (x4 : Int) < (σ.2.1 (σ.2.2.1 x1 0) 0) then (if (σ.1 x1).1 = 1 then if ((σ.1 (σ.2.2.1 x1 1)).1 : Int) = 0 then (G 8 [.inr (.inr (σ.2.2.1 x1 1)), .inl x4] σ).bind fun q1 => if (q1.1 : Int) = 0 then (if ((q1.2.1 x0).1 : Int) = 6 then (G 77 [.inr (.inr x0), .inl x4] q1.2).bind fun q2 => if (q2.2.1 q2.1).1 = 4 then if (x3 : Int) < (q2.2.2.1 q2.1 1) then (some (x4, q2.2)) else (K 11 [some (.inr (.inr x0)), some (.inr (.inr x1)), none, some (.inl (zi_w (x3 - (q2.2.2.1 q2.1 1)))), some (.inl (zi_w (x4 + 1))), none] [] q2.2) else none else none) else (if (x3 : Int) < 0 then (some (x4, q1.2)) else (K 11 [some (.inr (.inr x0)), some (.inr (.inr x1)), none, some (.inl (zi_w (x3 - 0))), some (.inl (zi_w (x4 + 1))), none] [] q1.2)) else none else none) else (some ((-1), σ)) else none else none) (zi_run zt_82 G n)) := zi_run_succ.trans ze_82_11
-- FoldedRows$Settings.<init>()V
set_option maxRecDepth 20000 in
theorem ze_83_0 {G : Nat → List zV → zM → zR} {K : Nat → zL → List zV → zM → zR} {x0 : Int} {σ : zM} : zi_fr zt_83 G K 600 0 [some (.inr (.inr x0))] [] σ = (if ((σ.1 x0).1 : Int) = 7 then (G 1000 [.inr (.inr x0)] σ).bind fun q1 => if (q1.2.1 x0).1 = 7 then let s2 : zM := zi_wr q1.2 x0 0 20; if (s2.1 x0).1 = 7 then let s3 : zM := zi_wr s2 x0 1 4; if (s3.1 x0).1 = 7 then let s4 : zM := zi_wr s3 x0 2 2; if (s4.1 x0).1 = 7 then let s5 : zM := zi_wr s4 x0 3 2; some (0, s5) else none else none else none else none else none) := rfl
theorem zm_83 {d : Nat} {x0 : Int} {σ : zM} : zG (d + 1) 83 [.inr (.inr x0)] σ = ((fun (G : Nat → List zV → zM → zR) (K : Nat → zL → List zV → zM → zR) => if ((σ.1 x0).1 : Int) = 7 then (G 1000 [.inr (.inr x0)] σ).bind fun q1 => if (q1.2.1 x0).1 = 7 then let s2 : zM := zi_wr q1.2 x0 0 20; if (s2.1 x0).1 = 7 then let s3 : zM := zi_wr s2 x0 1 4; if (s3.1 x0).1 = 7 then let s4 : zM := zi_wr s3 x0 2 2; if (s4.1 x0).1 = 7 then let s5 : zM := zi_wr s4 x0 3 2; some (0, s5) else none else none else none else none else none) (zG d) (zi_run zt_83 (zG d) 19999)) := (zG_eq zt_83 rfl rfl rfl).trans ze_83_0
-- FoldedRows$Settings.allows(II)Z
set_option maxRecDepth 20000 in
theorem ze_84_0 {G : Nat → List zV → zM → zR} {K : Nat → zL → List zV → zM → zR} {x0 x1 : Int} {σ : zM} : zi_fr zt_84 G K 600 0 [some (.inl x0), some (.inl x1)] [] σ = (if x0 = 0 then (if (x1 : Int) < 4 then (if (0 : Int) = 0 ∨ (0 : Int) = 1 then some (0, σ) else none) else (if (40 : Int) < x1 then (if (0 : Int) = 0 ∨ (0 : Int) = 1 then some (0, σ) else none) else (if (1 : Int) = 0 ∨ (1 : Int) = 1 then some (1, σ) else none))) else (if x0 = 1 then (if (x1 : Int) < 1 then (if (0 : Int) = 0 ∨ (0 : Int) = 1 then some (0, σ) else none) else (if (8 : Int) < x1 then (if (0 : Int) = 0 ∨ (0 : Int) = 1 then some (0, σ) else none) else (if (1 : Int) = 0 ∨ (1 : Int) = 1 then some (1, σ) else none))) else (if x0 = 2 then (if (x1 : Int) < 0 then (if (0 : Int) = 0 ∨ (0 : Int) = 1 then some (0, σ) else none) else (if (2 : Int) < x1 then (if (0 : Int) = 0 ∨ (0 : Int) = 1 then some (0, σ) else none) else (if (1 : Int) = 0 ∨ (1 : Int) = 1 then some (1, σ) else none))) else (if x0 = 3 then (if (x1 : Int) < 0 then (if (0 : Int) = 0 ∨ (0 : Int) = 1 then some (0, σ) else none) else (if (7 : Int) < x1 then (if (0 : Int) = 0 ∨ (0 : Int) = 1 then some (0, σ) else none) else (if (1 : Int) = 0 ∨ (1 : Int) = 1 then some (1, σ) else none))) else (if (0 : Int) = 0 ∨ (0 : Int) = 1 then some (0, σ) else none))))) := rfl
theorem zm_84 {d : Nat} {x0 x1 : Int} {σ : zM} : zG (d + 1) 84 [.inl x0, .inl x1] σ = ((fun (G : Nat → List zV → zM → zR) (K : Nat → zL → List zV → zM → zR) => if x0 = 0 then (if (x1 : Int) < 4 then (if (0 : Int) = 0 ∨ (0 : Int) = 1 then some (0, σ) else none) else (if (40 : Int) < x1 then (if (0 : Int) = 0 ∨ (0 : Int) = 1 then some (0, σ) else none) else (if (1 : Int) = 0 ∨ (1 : Int) = 1 then some (1, σ) else none))) else (if x0 = 1 then (if (x1 : Int) < 1 then (if (0 : Int) = 0 ∨ (0 : Int) = 1 then some (0, σ) else none) else (if (8 : Int) < x1 then (if (0 : Int) = 0 ∨ (0 : Int) = 1 then some (0, σ) else none) else (if (1 : Int) = 0 ∨ (1 : Int) = 1 then some (1, σ) else none))) else (if x0 = 2 then (if (x1 : Int) < 0 then (if (0 : Int) = 0 ∨ (0 : Int) = 1 then some (0, σ) else none) else (if (2 : Int) < x1 then (if (0 : Int) = 0 ∨ (0 : Int) = 1 then some (0, σ) else none) else (if (1 : Int) = 0 ∨ (1 : Int) = 1 then some (1, σ) else none))) else (if x0 = 3 then (if (x1 : Int) < 0 then (if (0 : Int) = 0 ∨ (0 : Int) = 1 then some (0, σ) else none) else (if (7 : Int) < x1 then (if (0 : Int) = 0 ∨ (0 : Int) = 1 then some (0, σ) else none) else (if (1 : Int) = 0 ∨ (1 : Int) = 1 then some (1, σ) else none))) else (if (0 : Int) = 0 ∨ (0 : Int) = 1 then some (0, σ) else none))))) (zG d) (zi_run zt_84 (zG d) 19999)) := (zG_eq zt_84 rfl rfl rfl).trans ze_84_0
-- FoldedRows$Settings.change(II)I
set_option maxRecDepth 20000 in
theorem ze_85_0 {G : Nat → List zV → zM → zR} {K : Nat → zL → List zV → zM → zR} {x0 x1 x2 : Int} {σ : zM} : zi_fr zt_85 G K 600 0 [some (.inr (.inr x0)), some (.inl x1), some (.inl x2), none] [] σ = (if x1 = 0 then (if (σ.1 x0).1 = 7 then if (σ.1 x0).1 = 7 then let s4 : zM := zi_wr σ x0 0 x2; some ((σ.2.1 x0 0), s4) else none else none) else (if x1 = 1 then (if (σ.1 x0).1 = 7 then if (σ.1 x0).1 = 7 then let s3 : zM := zi_wr σ x0 1 x2; some ((σ.2.1 x0 1), s3) else none else none) else (if x1 = 2 then (if (σ.1 x0).1 = 7 then if (σ.1 x0).1 = 7 then let s2 : zM := zi_wr σ x0 2 x2; some ((σ.2.1 x0 2), s2) else none else none) else (if x1 = 3 then (if (σ.1 x0).1 = 7 then if (σ.1 x0).1 = 7 then let s1 : zM := zi_wr σ x0 3 x2; some ((σ.2.1 x0 3), s1) else none else none) else (some (0, σ)))))) := rfl
theorem zm_85 {d : Nat} {x0 x1 x2 : Int} {σ : zM} : zG (d + 1) 85 [.inr (.inr x0), .inl x1, .inl x2] σ = ((fun (G : Nat → List zV → zM → zR) (K : Nat → zL → List zV → zM → zR) => if x1 = 0 then (if (σ.1 x0).1 = 7 then if (σ.1 x0).1 = 7 then let s4 : zM := zi_wr σ x0 0 x2; some ((σ.2.1 x0 0), s4) else none else none) else (if x1 = 1 then (if (σ.1 x0).1 = 7 then if (σ.1 x0).1 = 7 then let s3 : zM := zi_wr σ x0 1 x2; some ((σ.2.1 x0 1), s3) else none else none) else (if x1 = 2 then (if (σ.1 x0).1 = 7 then if (σ.1 x0).1 = 7 then let s2 : zM := zi_wr σ x0 2 x2; some ((σ.2.1 x0 2), s2) else none else none) else (if x1 = 3 then (if (σ.1 x0).1 = 7 then if (σ.1 x0).1 = 7 then let s1 : zM := zi_wr σ x0 3 x2; some ((σ.2.1 x0 3), s1) else none else none) else (some (0, σ)))))) (zG d) (zi_run zt_85 (zG d) 19999)) := (zG_eq zt_85 rfl rfl rfl).trans ze_85_0
-- FoldedRows$Settings.copyFrom(LFoldedRows$Settings;)V
set_option maxRecDepth 20000 in
theorem ze_86_0 {G : Nat → List zV → zM → zR} {K : Nat → zL → List zV → zM → zR} {x0 x1 : Int} {σ : zM} : zi_fr zt_86 G K 600 0 [some (.inr (.inr x0)), some (.inr (.inr x1))] [] σ = (if (σ.1 x1).1 = 7 then if (σ.1 x0).1 = 7 then let s1 : zM := zi_wr σ x0 0 (σ.2.1 x1 0); if (s1.1 x1).1 = 7 then if (s1.1 x0).1 = 7 then let s2 : zM := zi_wr s1 x0 1 (s1.2.1 x1 1); if (s2.1 x1).1 = 7 then if (s2.1 x0).1 = 7 then let s3 : zM := zi_wr s2 x0 2 (s2.2.1 x1 2); if (s3.1 x1).1 = 7 then if (s3.1 x0).1 = 7 then let s4 : zM := zi_wr s3 x0 3 (s3.2.1 x1 3); some (0, s4) else none else none else none else none else none else none else none else none) := rfl
theorem zm_86 {d : Nat} {x0 x1 : Int} {σ : zM} : zG (d + 1) 86 [.inr (.inr x0), .inr (.inr x1)] σ = ((fun (G : Nat → List zV → zM → zR) (K : Nat → zL → List zV → zM → zR) => if (σ.1 x1).1 = 7 then if (σ.1 x0).1 = 7 then let s1 : zM := zi_wr σ x0 0 (σ.2.1 x1 0); if (s1.1 x1).1 = 7 then if (s1.1 x0).1 = 7 then let s2 : zM := zi_wr s1 x0 1 (s1.2.1 x1 1); if (s2.1 x1).1 = 7 then if (s2.1 x0).1 = 7 then let s3 : zM := zi_wr s2 x0 2 (s2.2.1 x1 2); if (s3.1 x1).1 = 7 then if (s3.1 x0).1 = 7 then let s4 : zM := zi_wr s3 x0 3 (s3.2.1 x1 3); some (0, s4) else none else none else none else none else none else none else none else none) (zG d) (zi_run zt_86 (zG d) 19999)) := (zG_eq zt_86 rfl rfl rfl).trans ze_86_0
-- FoldedRows$Settings.cellsToTabStop(I)I
set_option maxRecDepth 20000 in
theorem ze_87_0 {G : Nat → List zV → zM → zR} {K : Nat → zL → List zV → zM → zR} {x0 x1 : Int} {σ : zM} : zi_fr zt_87 G K 600 0 [some (.inr (.inr x0)), some (.inl x1)] [] σ = (if (σ.1 x0).1 = 7 then if (0 : Int) < (σ.2.1 x0 1) then (if (σ.1 x0).1 = 7 then if (σ.1 x0).1 = 7 then if ((σ.2.1 x0 1) : Int) = 0 then none else some ((zi_w ((σ.2.1 x0 1) - (zi_rem x1 (σ.2.1 x0 1)))), σ) else none else none) else (some (1, σ)) else none) := rfl
theorem zm_87 {d : Nat} {x0 x1 : Int} {σ : zM} : zG (d + 1) 87 [.inr (.inr x0), .inl x1] σ = ((fun (G : Nat → List zV → zM → zR) (K : Nat → zL → List zV → zM → zR) => if (σ.1 x0).1 = 7 then if (0 : Int) < (σ.2.1 x0 1) then (if (σ.1 x0).1 = 7 then if (σ.1 x0).1 = 7 then if ((σ.2.1 x0 1) : Int) = 0 then none else some ((zi_w ((σ.2.1 x0 1) - (zi_rem x1 (σ.2.1 x0 1)))), σ) else none else none) else (some (1, σ)) else none) (zG d) (zi_run zt_87 (zG d) 19999)) := (zG_eq zt_87 rfl rfl rfl).trans ze_87_0
-- FoldedRows$Settings.cellsOf(III)I
set_option maxRecDepth 20000 in
theorem ze_88_0 {G : Nat → List zV → zM → zR} {K : Nat → zL → List zV → zM → zR} {x0 x1 x2 x3 : Int} {σ : zM} : zi_fr zt_88 G K 600 0 [some (.inr (.inr x0)), some (.inl x1), some (.inl x2), some (.inl x3), none] [] σ = ((G 134 [.inl x1] σ).bind fun q1 => if (q1.1 : Int) = 0 then (if (x1 : Int) = 126 then (if (x2 : Int) = 0 then (some (1, q1.2)) else (some (0, q1.2))) else (if (x1 : Int) = 9 then (if ((q1.2.1 x0).1 : Int) = 7 then (G 87 [.inr (.inr x0), .inl x3] q1.2).bind fun q2 => if (q2.2.1 x0).1 = 7 then if ((q2.2.2.1 x0 2) : Int) = 0 then (some (q2.1, q2.2)) else (if (q2.2.1 x0).1 = 7 then (G 1001 [.inl 0, .inl (zi_w ((q2.2.2.1 x0 0) - x3))] q2.2).bind fun q3 => (G 1002 [.inl q2.1, .inl q3.1] q3.2).bind fun q4 => some (q4.1, q4.2) else none) else none else none) else (some (1, q1.2)))) else (some (2, q1.2))) := rfl
theorem zm_88 {d : Nat} {x0 x1 x2 x3 : Int} {σ : zM} : zG (d + 1) 88 [.inr (.inr x0), .inl x1, .inl x2, .inl x3] σ = ((fun (G : Nat → List zV → zM → zR) (K : Nat → zL → List zV → zM → zR) => (G 134 [.inl x1] σ).bind fun q1 => if (q1.1 : Int) = 0 then (if (x1 : Int) = 126 then (if (x2 : Int) = 0 then (some (1, q1.2)) else (some (0, q1.2))) else (if (x1 : Int) = 9 then (if ((q1.2.1 x0).1 : Int) = 7 then (G 87 [.inr (.inr x0), .inl x3] q1.2).bind fun q2 => if (q2.2.1 x0).1 = 7 then if ((q2.2.2.1 x0 2) : Int) = 0 then (some (q2.1, q2.2)) else (if (q2.2.1 x0).1 = 7 then (G 1001 [.inl 0, .inl (zi_w ((q2.2.2.1 x0 0) - x3))] q2.2).bind fun q3 => (G 1002 [.inl q2.1, .inl q3.1] q3.2).bind fun q4 => some (q4.1, q4.2) else none) else none else none) else (some (1, q1.2)))) else (some (2, q1.2))) (zG d) (zi_run zt_88 (zG d) 19999)) := (zG_eq zt_88 rfl rfl rfl).trans ze_88_0
-- FoldedRows$Settings.fits(III)Z
set_option maxRecDepth 20000 in
theorem ze_89_0 {G : Nat → List zV → zM → zR} {K : Nat → zL → List zV → zM → zR} {x0 x1 x2 x3 : Int} {σ : zM} : zi_fr zt_89 G K 600 0 [some (.inr (.inr x0)), some (.inl x1), some (.inl x2), some (.inl x3)] [] σ = (if (σ.1 x0).1 = 7 then if ((σ.2.1 x0 2) : Int) = 0 then (if (1 : Int) = 0 ∨ (1 : Int) = 1 then some (1, σ) else none) else (if (x1 : Int) = 9 then (if (σ.1 x0).1 = 7 then if (x2 : Int) < (σ.2.1 x0 0) then (if (1 : Int) = 0 ∨ (1 : Int) = 1 then some (1, σ) else none) else (if (0 : Int) = 0 ∨ (0 : Int) = 1 then some (0, σ) else none) else none) else (if (σ.1 x0).1 = 7 then if ((σ.2.1 x0 0) : Int) < (zi_w (x2 + x3)) then (if (0 : Int) = 0 ∨ (0 : Int) = 1 then some (0, σ) else none) else (if (1 : Int) = 0 ∨ (1 : Int) = 1 then some (1, σ) else none) else none)) else none) := rfl
theorem zm_89 {d : Nat} {x0 x1 x2 x3 : Int} {σ : zM} : zG (d + 1) 89 [.inr (.inr x0), .inl x1, .inl x2, .inl x3] σ = ((fun (G : Nat → List zV → zM → zR) (K : Nat → zL → List zV → zM → zR) => if (σ.1 x0).1 = 7 then if ((σ.2.1 x0 2) : Int) = 0 then (if (1 : Int) = 0 ∨ (1 : Int) = 1 then some (1, σ) else none) else (if (x1 : Int) = 9 then (if (σ.1 x0).1 = 7 then if (x2 : Int) < (σ.2.1 x0 0) then (if (1 : Int) = 0 ∨ (1 : Int) = 1 then some (1, σ) else none) else (if (0 : Int) = 0 ∨ (0 : Int) = 1 then some (0, σ) else none) else none) else (if (σ.1 x0).1 = 7 then if ((σ.2.1 x0 0) : Int) < (zi_w (x2 + x3)) then (if (0 : Int) = 0 ∨ (0 : Int) = 1 then some (0, σ) else none) else (if (1 : Int) = 0 ∨ (1 : Int) = 1 then some (1, σ) else none) else none)) else none) (zG d) (zi_run zt_89 (zG d) 19999)) := (zG_eq zt_89 rfl rfl rfl).trans ze_89_0
-- FoldedRows$Sheet.<init>()V
set_option maxRecDepth 20000 in
theorem ze_90_0 {G : Nat → List zV → zM → zR} {K : Nat → zL → List zV → zM → zR} {x0 : Int} {σ : zM} : zi_fr zt_90 G K 600 0 [some (.inr (.inr x0))] [] σ = (if ((σ.1 x0).1 : Int) = 8 then (G 1000 [.inr (.inr x0)] σ).bind fun q1 => if (q1.2.1 x0).1 = 8 ∧ ((0 : Int) = 0 ∨ (0 : Int) = 1) then let s2 : zM := zi_wr q1.2 x0 0 0; if (s2.1 x0).1 = 8 then let s3 : zM := zi_wr s2 x0 1 0; if (s3.1 x0).1 = 8 then let s4 : zM := zi_wr s3 x0 2 0; if (0 : Int) ≤ 20 ∧ (20 : Int) ≤ 100000 then let s5 : zM := zi_new s4 12 20 (Int.toNat 20); if (s5.1 x0).1 = 8 then let s6 : zM := zi_wq s5 x0 3 s4.2.2.2.1; some (0, s6) else none else none else none else none else none else none) := rfl
theorem zm_90 {d : Nat} {x0 : Int} {σ : zM} : zG (d + 1) 90 [.inr (.inr x0)] σ = ((fun (G : Nat → List zV → zM → zR) (K : Nat → zL → List zV → zM → zR) => if ((σ.1 x0).1 : Int) = 8 then (G 1000 [.inr (.inr x0)] σ).bind fun q1 => if (q1.2.1 x0).1 = 8 ∧ ((0 : Int) = 0 ∨ (0 : Int) = 1) then let s2 : zM := zi_wr q1.2 x0 0 0; if (s2.1 x0).1 = 8 then let s3 : zM := zi_wr s2 x0 1 0; if (s3.1 x0).1 = 8 then let s4 : zM := zi_wr s3 x0 2 0; if (0 : Int) ≤ 20 ∧ (20 : Int) ≤ 100000 then let s5 : zM := zi_new s4 12 20 (Int.toNat 20); if (s5.1 x0).1 = 8 then let s6 : zM := zi_wq s5 x0 3 s4.2.2.2.1; some (0, s6) else none else none else none else none else none else none) (zG d) (zi_run zt_90 (zG d) 19999)) := (zG_eq zt_90 rfl rfl rfl).trans ze_90_0
-- FoldedRows$Tape.<init>()V
set_option maxRecDepth 20000 in
theorem ze_91_0 {G : Nat → List zV → zM → zR} {K : Nat → zL → List zV → zM → zR} {x0 : Int} {σ : zM} : zi_fr zt_91 G K 600 0 [some (.inr (.inr x0))] [] σ = (if ((σ.1 x0).1 : Int) = 9 then (G 1000 [.inr (.inr x0)] σ).bind fun q1 => if (0 : Int) ≤ 400 ∧ (400 : Int) ≤ 100000 then let s2 : zM := zi_new q1.2 12 400 (Int.toNat 400); if (s2.1 x0).1 = 9 then let s3 : zM := zi_wq s2 x0 0 q1.2.2.2.2.1; if (0 : Int) ≤ 8 ∧ (8 : Int) ≤ 100000 then let s4 : zM := zi_new s3 12 8 (Int.toNat 8); if (s4.1 x0).1 = 9 then let s5 : zM := zi_wq s4 x0 1 s3.2.2.2.1; if (s5.1 x0).1 = 9 then let s6 : zM := zi_wr s5 x0 2 0; if (s6.1 x0).1 = 9 then let s7 : zM := zi_wr s6 x0 3 0; if (s7.1 x0).1 = 9 then let s8 : zM := zi_wr s7 x0 4 0; if (s8.1 x0).1 = 9 then let s9 : zM := zi_wr s8 x0 5 0; some (0, s9) else none else none else none else none else none else none else none else none else none) := rfl
theorem zm_91 {d : Nat} {x0 : Int} {σ : zM} : zG (d + 1) 91 [.inr (.inr x0)] σ = ((fun (G : Nat → List zV → zM → zR) (K : Nat → zL → List zV → zM → zR) => if ((σ.1 x0).1 : Int) = 9 then (G 1000 [.inr (.inr x0)] σ).bind fun q1 => if (0 : Int) ≤ 400 ∧ (400 : Int) ≤ 100000 then let s2 : zM := zi_new q1.2 12 400 (Int.toNat 400); if (s2.1 x0).1 = 9 then let s3 : zM := zi_wq s2 x0 0 q1.2.2.2.2.1; if (0 : Int) ≤ 8 ∧ (8 : Int) ≤ 100000 then let s4 : zM := zi_new s3 12 8 (Int.toNat 8); if (s4.1 x0).1 = 9 then let s5 : zM := zi_wq s4 x0 1 s3.2.2.2.1; if (s5.1 x0).1 = 9 then let s6 : zM := zi_wr s5 x0 2 0; if (s6.1 x0).1 = 9 then let s7 : zM := zi_wr s6 x0 3 0; if (s7.1 x0).1 = 9 then let s8 : zM := zi_wr s7 x0 4 0; if (s8.1 x0).1 = 9 then let s9 : zM := zi_wr s8 x0 5 0; some (0, s9) else none else none else none else none else none else none else none else none else none) (zG d) (zi_run zt_91 (zG d) 19999)) := (zG_eq zt_91 rfl rfl rfl).trans ze_91_0
-- FoldedRows$Tape.append(I)Z
set_option maxRecDepth 20000 in
theorem ze_92_0 {G : Nat → List zV → zM → zR} {K : Nat → zL → List zV → zM → zR} {x0 x1 : Int} {σ : zM} : zi_fr zt_92 G K 600 0 [some (.inr (.inr x0)), some (.inl x1)] [] σ = (if (σ.1 x0).1 = 9 then if ((σ.2.1 x0 2) : Int) < 400 then (if (σ.1 x0).1 = 9 then if (σ.1 x0).1 = 9 then (G 73 [.inr (.inr (σ.2.2.1 x0 0)), .inl (σ.2.1 x0 2), .inl x1] σ).bind fun q1 => if (q1.2.1 x0).1 = 9 then if (q1.2.1 x0).1 = 9 then let s2 : zM := zi_wr q1.2 x0 2 (zi_w ((q1.2.2.1 x0 2) + 1)); if (1 : Int) = 0 ∨ (1 : Int) = 1 then some (1, s2) else none else none else none else none else none) else (if (0 : Int) = 0 ∨ (0 : Int) = 1 then some (0, σ) else none) else none) := rfl
theorem zm_92 {d : Nat} {x0 x1 : Int} {σ : zM} : zG (d + 1) 92 [.inr (.inr x0), .inl x1] σ = ((fun (G : Nat → List zV → zM → zR) (K : Nat → zL → List zV → zM → zR) => if (σ.1 x0).1 = 9 then if ((σ.2.1 x0 2) : Int) < 400 then (if (σ.1 x0).1 = 9 then if (σ.1 x0).1 = 9 then (G 73 [.inr (.inr (σ.2.2.1 x0 0)), .inl (σ.2.1 x0 2), .inl x1] σ).bind fun q1 => if (q1.2.1 x0).1 = 9 then if (q1.2.1 x0).1 = 9 then let s2 : zM := zi_wr q1.2 x0 2 (zi_w ((q1.2.2.1 x0 2) + 1)); if (1 : Int) = 0 ∨ (1 : Int) = 1 then some (1, s2) else none else none else none else none else none) else (if (0 : Int) = 0 ∨ (0 : Int) = 1 then some (0, σ) else none) else none) (zG d) (zi_run zt_92 (zG d) 19999)) := (zG_eq zt_92 rfl rfl rfl).trans ze_92_0
-- FoldedRows$Tape.readInto(LFoldedRows$Frame;)I
set_option maxRecDepth 20000 in
theorem ze_93_0 {G : Nat → List zV → zM → zR} {K : Nat → zL → List zV → zM → zR} {x0 x1 : Int} {σ : zM} : zi_fr zt_93 G K 600 0 [some (.inr (.inr x0)), some (.inr (.inr x1)), none, none] [] σ = (if ((σ.1 x1).1 : Int) = 1 then (G 20 [.inr (.inr x1)] σ).bind fun q1 => if (q1.2.1 x0).1 = 9 then let s2 : zM := zi_wr q1.2 x0 4 0; if (s2.1 x0).1 = 9 then let s3 : zM := zi_wr s2 x0 5 0; K 16 [some (.inr (.inr x0)), some (.inr (.inr x1)), some (.inl 0), none] [] s3 else none else none else none) := rfl
theorem zm_93 {d : Nat} {x0 x1 : Int} {σ : zM} : zG (d + 1) 93 [.inr (.inr x0), .inr (.inr x1)] σ = ((fun (G : Nat → List zV → zM → zR) (K : Nat → zL → List zV → zM → zR) => if ((σ.1 x1).1 : Int) = 1 then (G 20 [.inr (.inr x1)] σ).bind fun q1 => if (q1.2.1 x0).1 = 9 then let s2 : zM := zi_wr q1.2 x0 4 0; if (s2.1 x0).1 = 9 then let s3 : zM := zi_wr s2 x0 5 0; K 16 [some (.inr (.inr x0)), some (.inr (.inr x1)), some (.inl 0), none] [] s3 else none else none else none) (zG d) (zi_run zt_93 (zG d) 19999)) := (zG_eq zt_93 rfl rfl rfl).trans ze_93_0
set_option maxRecDepth 20000 in
theorem ze_93_16 {G : Nat → List zV → zM → zR} {K : Nat → zL → List zV → zM → zR} {x0 x1 x2 : Int} {σ : zM} : zi_fr zt_93 G K 600 16 [some (.inr (.inr x0)), some (.inr (.inr x1)), some (.inl x2), none] [] σ = (if (σ.1 x0).1 = 9 then if (x2 : Int) < (σ.2.1 x0 2) then (if (σ.1 x0).1 = 9 then (G 72 [.inr (.inr (σ.2.2.1 x0 0)), .inl x2] σ).bind fun q2 => if ((q2.2.1 x0).1 : Int) = 9 then (G 94 [.inr (.inr x0), .inl q2.1, .inr (.inr x1)] q2.2).bind fun q3 => if (q3.1 : Int) = 0 then (K 16 [some (.inr (.inr x0)), some (.inr (.inr x1)), some (.inl (zi_w (x2 + 1))), none] [] q3.2) else (if (q3.2.1 x0).1 = 9 then let s4 : zM := zi_wr q3.2 x0 3 x2; some (q3.1, s4) else none) else none else none) else (if (σ.1 x0).1 = 9 then if (σ.1 x0).1 = 9 then let s1 : zM := zi_wr σ x0 3 (σ.2.1 x0 2); if (s1.1 x0).1 = 9 then if (0 : Int) < (s1.2.1 x0 4) then (some (6, s1)) else (some (0, s1)) else none else none else none) else none) := rfl
theorem zk_93_16 {G : Nat → List zV → zM → zR} {n : Nat} {x0 x1 x2 : Int} {σ : zM} : zi_run zt_93 G (n + 1) 16 [some (.inr (.inr x0)), some (.inr (.inr x1)), some (.inl x2), none] [] σ = ((fun (K : Nat → zL → List zV → zM → zR) => if (σ.1 x0).1 = 9 then if (x2 : Int) < (σ.2.1 x0 2) then (if (σ.1 x0).1 = 9 then (G 72 [.inr (.inr (σ.2.2.1 x0 0)), .inl x2] σ).bind fun q2 => if ((q2.2.1 x0).1 : Int) = 9 then (G 94 [.inr (.inr x0), .inl q2.1, .inr (.inr x1)] q2.2).bind fun q3 => if (q3.1 : Int) = 0 then (K 16 [some (.inr (.inr x0)), some (.inr (.inr x1)), some (.inl (zi_w (x2 + 1))), none] [] q3.2) else (if (q3.2.1 x0).1 = 9 then let s4 : zM := zi_wr q3.2 x0 3 x2; some (q3.1, s4) else none) else none else none) else (if (σ.1 x0).1 = 9 then if (σ.1 x0).1 = 9 then let s1 : zM := zi_wr σ x0 3 (σ.2.1 x0 2); if (s1.1 x0).1 = 9 then if (0 : Int) < (s1.2.1 x0 4) then (some (6, s1)) else (some (0, s1)) else none else none else none) else none) (zi_run zt_93 G n)) := zi_run_succ.trans ze_93_16
-- FoldedRows$Tape.readByte(ILFoldedRows$Frame;)I
set_option maxRecDepth 20000 in
theorem ze_94_0 {G : Nat → List zV → zM → zR} {K : Nat → zL → List zV → zM → zR} {x0 x1 x2 : Int} {σ : zM} : zi_fr zt_94 G K 600 0 [some (.inr (.inr x0)), some (.inl x1), some (.inr (.inr x2)), none] [] σ = (if (σ.1 x2).1 = 1 then if (x1 : Int) = 10 then (if ((σ.1 x0).1 : Int) = 9 then (G 95 [.inr (.inr x0), .inr (.inr (σ.2.2.1 x2 0))] σ).bind fun q6 => some (q6.1, q6.2) else none) else (if (x1 : Int) = 91 then (if (σ.1 (σ.2.2.1 x2 0)).1 = 5 then if ((σ.1 x0).1 : Int) = 9 then (G 96 [.inr (.inr x0), .inl (zi_w ((σ.2.1 (σ.2.2.1 x2 0) 0) - 1))] σ).bind fun q5 => some (q5.1, q5.2) else none else none) else (if (x1 : Int) = 93 then (if (σ.1 x2).1 = 1 then if (σ.1 (σ.2.2.1 x2 0)).1 = 5 then if ((σ.1 x0).1 : Int) = 9 then (G 97 [.inr (.inr x0), .inr (.inr (σ.2.2.1 x2 1)), .inl (zi_w ((σ.2.1 (σ.2.2.1 x2 0) 0) - 1))] σ).bind fun q4 => some (q4.1, q4.2) else none else none else none) else ((G 136 [.inl x1] σ).bind fun q1 => if (q1.1 : Int) = 0 then (some (1, q1.2)) else (if (q1.2.1 (σ.2.2.1 x2 0)).1 = 5 then if ((q1.2.1 (σ.2.2.1 x2 0)).1 : Int) = 5 then (G 58 [.inr (.inr (σ.2.2.1 x2 0)), .inl (zi_w ((q1.2.2.1 (σ.2.2.1 x2 0) 0) - 1))] q1.2).bind fun q2 => if (q2.1 : Int) < 40 then (if (q2.2.1 (σ.2.2.1 x2 0)).1 = 5 then if ((q2.2.1 (σ.2.2.1 x2 0)).1 : Int) = 5 then (G 63 [.inr (.inr (σ.2.2.1 x2 0)), .inl (zi_w ((q2.2.2.1 (σ.2.2.1 x2 0) 0) - 1)), .inl x1] q2.2).bind fun q3 => some (0, q3.2) else none else none) else (some (2, q2.2)) else none else none)))) else none) := rfl
theorem zm_94 {d : Nat} {x0 x1 x2 : Int} {σ : zM} : zG (d + 1) 94 [.inr (.inr x0), .inl x1, .inr (.inr x2)] σ = ((fun (G : Nat → List zV → zM → zR) (K : Nat → zL → List zV → zM → zR) => if (σ.1 x2).1 = 1 then if (x1 : Int) = 10 then (if ((σ.1 x0).1 : Int) = 9 then (G 95 [.inr (.inr x0), .inr (.inr (σ.2.2.1 x2 0))] σ).bind fun q6 => some (q6.1, q6.2) else none) else (if (x1 : Int) = 91 then (if (σ.1 (σ.2.2.1 x2 0)).1 = 5 then if ((σ.1 x0).1 : Int) = 9 then (G 96 [.inr (.inr x0), .inl (zi_w ((σ.2.1 (σ.2.2.1 x2 0) 0) - 1))] σ).bind fun q5 => some (q5.1, q5.2) else none else none) else (if (x1 : Int) = 93 then (if (σ.1 x2).1 = 1 then if (σ.1 (σ.2.2.1 x2 0)).1 = 5 then if ((σ.1 x0).1 : Int) = 9 then (G 97 [.inr (.inr x0), .inr (.inr (σ.2.2.1 x2 1)), .inl (zi_w ((σ.2.1 (σ.2.2.1 x2 0) 0) - 1))] σ).bind fun q4 => some (q4.1, q4.2) else none else none else none) else ((G 136 [.inl x1] σ).bind fun q1 => if (q1.1 : Int) = 0 then (some (1, q1.2)) else (if (q1.2.1 (σ.2.2.1 x2 0)).1 = 5 then if ((q1.2.1 (σ.2.2.1 x2 0)).1 : Int) = 5 then (G 58 [.inr (.inr (σ.2.2.1 x2 0)), .inl (zi_w ((q1.2.2.1 (σ.2.2.1 x2 0) 0) - 1))] q1.2).bind fun q2 => if (q2.1 : Int) < 40 then (if (q2.2.1 (σ.2.2.1 x2 0)).1 = 5 then if ((q2.2.1 (σ.2.2.1 x2 0)).1 : Int) = 5 then (G 63 [.inr (.inr (σ.2.2.1 x2 0)), .inl (zi_w ((q2.2.2.1 (σ.2.2.1 x2 0) 0) - 1)), .inl x1] q2.2).bind fun q3 => some (0, q3.2) else none else none) else (some (2, q2.2)) else none else none)))) else none) (zG d) (zi_run zt_94 (zG d) 19999)) := (zG_eq zt_94 rfl rfl rfl).trans ze_94_0
-- FoldedRows$Tape.endLine(LFoldedRows$Lines;)I
set_option maxRecDepth 20000 in
theorem ze_95_0 {G : Nat → List zV → zM → zR} {K : Nat → zL → List zV → zM → zR} {x0 x1 : Int} {σ : zM} : zi_fr zt_95 G K 600 0 [some (.inr (.inr x0)), some (.inr (.inr x1))] [] σ = (if (σ.1 x1).1 = 5 then if ((σ.2.1 x1 0) : Int) < 12 then (if ((σ.1 x1).1 : Int) = 5 then (G 62 [.inr (.inr x1)] σ).bind fun q1 => some (0, q1.2) else none) else (some (3, σ)) else none) := rfl
theorem zm_95 {d : Nat} {x0 x1 : Int} {σ : zM} : zG (d + 1) 95 [.inr (.inr x0), .inr (.inr x1)] σ = ((fun (G : Nat → List zV → zM → zR) (K : Nat → zL → List zV → zM → zR) => if (σ.1 x1).1 = 5 then if ((σ.2.1 x1 0) : Int) < 12 then (if ((σ.1 x1).1 : Int) = 5 then (G 62 [.inr (.inr x1)] σ).bind fun q1 => some (0, q1.2) else none) else (some (3, σ)) else none) (zG d) (zi_run zt_95 (zG d) 19999)) := (zG_eq zt_95 rfl rfl rfl).trans ze_95_0
-- FoldedRows$Tape.beginFold(I)I
set_option maxRecDepth 20000 in
theorem ze_96_0 {G : Nat → List zV → zM → zR} {K : Nat → zL → List zV → zM → zR} {x0 x1 : Int} {σ : zM} : zi_fr zt_96 G K 600 0 [some (.inr (.inr x0)), some (.inl x1)] [] σ = (if (σ.1 x0).1 = 9 then if ((σ.2.1 x0 5) : Int) < 8 then (if (σ.1 x0).1 = 9 then if (σ.1 x0).1 = 9 then (G 73 [.inr (.inr (σ.2.2.1 x0 1)), .inl (σ.2.1 x0 4), .inl x1] σ).bind fun q1 => if (q1.2.1 x0).1 = 9 then if (q1.2.1 x0).1 = 9 then let s2 : zM := zi_wr q1.2 x0 4 (zi_w ((q1.2.2.1 x0 4) + 1)); if (s2.1 x0).1 = 9 then if (s2.1 x0).1 = 9 then let s3 : zM := zi_wr s2 x0 5 (zi_w ((s2.2.1 x0 5) + 1)); some (0, s3) else none else none else none else none else none else none) else (some (4, σ)) else none) := rfl
theorem zm_96 {d : Nat} {x0 x1 : Int} {σ : zM} : zG (d + 1) 96 [.inr (.inr x0), .inl x1] σ = ((fun (G : Nat → List zV → zM → zR) (K : Nat → zL → List zV → zM → zR) => if (σ.1 x0).1 = 9 then if ((σ.2.1 x0 5) : Int) < 8 then (if (σ.1 x0).1 = 9 then if (σ.1 x0).1 = 9 then (G 73 [.inr (.inr (σ.2.2.1 x0 1)), .inl (σ.2.1 x0 4), .inl x1] σ).bind fun q1 => if (q1.2.1 x0).1 = 9 then if (q1.2.1 x0).1 = 9 then let s2 : zM := zi_wr q1.2 x0 4 (zi_w ((q1.2.2.1 x0 4) + 1)); if (s2.1 x0).1 = 9 then if (s2.1 x0).1 = 9 then let s3 : zM := zi_wr s2 x0 5 (zi_w ((s2.2.1 x0 5) + 1)); some (0, s3) else none else none else none else none else none else none) else (some (4, σ)) else none) (zG d) (zi_run zt_96 (zG d) 19999)) := (zG_eq zt_96 rfl rfl rfl).trans ze_96_0
-- FoldedRows$Tape.endFold(LFoldedRows$Folds;I)I
set_option maxRecDepth 20000 in
theorem ze_97_0 {G : Nat → List zV → zM → zR} {K : Nat → zL → List zV → zM → zR} {x0 x1 x2 : Int} {σ : zM} : zi_fr zt_97 G K 600 0 [some (.inr (.inr x0)), some (.inr (.inr x1)), some (.inl x2), none] [] σ = (if (σ.1 x0).1 = 9 then if ((σ.2.1 x0 4) : Int) = 0 then (some (5, σ)) else (if (σ.1 x0).1 = 9 then if (σ.1 x0).1 = 9 then (G 72 [.inr (.inr (σ.2.2.1 x0 1)), .inl (zi_w ((σ.2.1 x0 4) - 1))] σ).bind fun q1 => if (q1.1 : Int) < x2 then (if ((q1.2.1 x1).1 : Int) = 0 then (G 10 [.inr (.inr x1), .inl q1.1, .inl x2] q1.2).bind fun q2 => if (q2.1 : Int) = 0 then (if (q2.2.1 x0).1 = 9 then if (q2.2.1 x0).1 = 9 then let s3 : zM := zi_wr q2.2 x0 4 (zi_w ((q2.2.2.1 x0 4) - 1)); if ((s3.1 x1).1 : Int) = 0 then (G 11 [.inr (.inr x1), .inl q1.1, .inl x2] s3).bind fun q4 => some (0, q4.2) else none else none else none) else (some (5, q2.2)) else none) else (some (5, q1.2)) else none else none) else none) := rfl
theorem zm_97 {d : Nat} {x0 x1 x2 : Int} {σ : zM} : zG (d + 1) 97 [.inr (.inr x0), .inr (.inr x1), .inl x2] σ = ((fun (G : Nat → List zV → zM → zR) (K : Nat → zL → List zV → zM → zR) => if (σ.1 x0).1 = 9 then if ((σ.2.1 x0 4) : Int) = 0 then (some (5, σ)) else (if (σ.1 x0).1 = 9 then if (σ.1 x0).1 = 9 then (G 72 [.inr (.inr (σ.2.2.1 x0 1)), .inl (zi_w ((σ.2.1 x0 4) - 1))] σ).bind fun q1 => if (q1.1 : Int) < x2 then (if ((q1.2.1 x1).1 : Int) = 0 then (G 10 [.inr (.inr x1), .inl q1.1, .inl x2] q1.2).bind fun q2 => if (q2.1 : Int) = 0 then (if (q2.2.1 x0).1 = 9 then if (q2.2.1 x0).1 = 9 then let s3 : zM := zi_wr q2.2 x0 4 (zi_w ((q2.2.2.1 x0 4) - 1)); if ((s3.1 x1).1 : Int) = 0 then (G 11 [.inr (.inr x1), .inl q1.1, .inl x2] s3).bind fun q4 => some (0, q4.2) else none else none else none) else (some (5, q2.2)) else none) else (some (5, q1.2)) else none else none) else none) (zG d) (zi_run zt_97 (zG d) 19999)) := (zG_eq zt_97 rfl rfl rfl).trans ze_97_0
-- FoldedRows.<init>()V
set_option maxRecDepth 20000 in
theorem ze_98_0 {G : Nat → List zV → zM → zR} {K : Nat → zL → List zV → zM → zR} {x0 : Int} {σ : zM} : zi_fr zt_98 G K 600 0 [some (.inr (.inr x0)), none] [] σ = (if ((σ.1 x0).1 : Int) = 10 then (G 1000 [.inr (.inr x0)] σ).bind fun q1 => let s2 : zM := zi_new q1.2 9 0 6; if ((s2.1 q1.2.2.2.2.1).1 : Int) = 9 then (G 91 [.inr (.inr q1.2.2.2.2.1)] s2).bind fun q3 => if (q3.2.1 x0).1 = 10 then let s4 : zM := zi_wq q3.2 x0 0 q1.2.2.2.2.1; let s5 : zM := zi_new s4 7 0 4; if ((s5.1 s4.2.2.2.1).1 : Int) = 7 then (G 83 [.inr (.inr s4.2.2.2.1)] s5).bind fun q6 => if (q6.2.1 x0).1 = 10 then let s7 : zM := zi_wq q6.2 x0 1 s4.2.2.2.1; let s8 : zM := zi_new s7 2 0 3; if ((s8.1 s7.2.2.2.1).1 : Int) = 2 then (G 25 [.inr (.inr s7.2.2.2.1)] s8).bind fun q9 => if (q9.2.1 x0).1 = 10 then let s10 : zM := zi_wq q9.2 x0 2 s7.2.2.2.1; K 37 [some (.inr (.inr x0)), none] [] s10 else none else none else none else none else none else none else none) := rfl
theorem zm_98 {d : Nat} {x0 : Int} {σ : zM} : zG (d + 1) 98 [.inr (.inr x0)] σ = ((fun (G : Nat → List zV → zM → zR) (K : Nat → zL → List zV → zM → zR) => if ((σ.1 x0).1 : Int) = 10 then (G 1000 [.inr (.inr x0)] σ).bind fun q1 => let s2 : zM := zi_new q1.2 9 0 6; if ((s2.1 q1.2.2.2.2.1).1 : Int) = 9 then (G 91 [.inr (.inr q1.2.2.2.2.1)] s2).bind fun q3 => if (q3.2.1 x0).1 = 10 then let s4 : zM := zi_wq q3.2 x0 0 q1.2.2.2.2.1; let s5 : zM := zi_new s4 7 0 4; if ((s5.1 s4.2.2.2.1).1 : Int) = 7 then (G 83 [.inr (.inr s4.2.2.2.1)] s5).bind fun q6 => if (q6.2.1 x0).1 = 10 then let s7 : zM := zi_wq q6.2 x0 1 s4.2.2.2.1; let s8 : zM := zi_new s7 2 0 3; if ((s8.1 s7.2.2.2.1).1 : Int) = 2 then (G 25 [.inr (.inr s7.2.2.2.1)] s8).bind fun q9 => if (q9.2.1 x0).1 = 10 then let s10 : zM := zi_wq q9.2 x0 2 s7.2.2.2.1; K 37 [some (.inr (.inr x0)), none] [] s10 else none else none else none else none else none else none else none) (zG d) (zi_run zt_98 (zG d) 19999)) := (zG_eq zt_98 rfl rfl rfl).trans ze_98_0
set_option maxRecDepth 20000 in
theorem ze_98_37 {G : Nat → List zV → zM → zR} {K : Nat → zL → List zV → zM → zR} {x0 : Int} {σ : zM} : zi_fr zt_98 G K 600 37 [some (.inr (.inr x0)), none] [] σ = (let s1 : zM := zi_new σ 6 0 2; if ((s1.1 σ.2.2.2.1).1 : Int) = 6 then (G 76 [.inr (.inr σ.2.2.2.1)] s1).bind fun q2 => if (q2.2.1 x0).1 = 10 then let s3 : zM := zi_wq q2.2 x0 3 σ.2.2.2.1; if (0 : Int) ≤ 2 ∧ (2 : Int) ≤ 100000 then let s4 : zM := zi_new s3 15 2 (Int.toNat 2); if (s4.1 x0).1 = 10 then let s5 : zM := zi_wq s4 x0 4 s3.2.2.2.1; if (0 : Int) ≤ 4 ∧ (4 : Int) ≤ 100000 then let s6 : zM := zi_new s5 17 4 (Int.toNat 4); if (s6.1 x0).1 = 10 then let s7 : zM := zi_wq s6 x0 5 s5.2.2.2.1; let s8 : zM := zi_new s7 1 0 4; if ((s8.1 s7.2.2.2.1).1 : Int) = 1 then (G 19 [.inr (.inr s7.2.2.2.1)] s8).bind fun q9 => if (q9.2.1 x0).1 = 10 then let s10 : zM := zi_wq q9.2 x0 6 s7.2.2.2.1; K 75 [some (.inr (.inr x0)), none] [] s10 else none else none else none else none else none else none else none else none) := rfl
theorem zk_98_37 {G : Nat → List zV → zM → zR} {n : Nat} {x0 : Int} {σ : zM} : zi_run zt_98 G (n + 1) 37 [some (.inr (.inr x0)), none] [] σ = ((fun (K : Nat → zL → List zV → zM → zR) => let s1 : zM := zi_new σ 6 0 2; if ((s1.1 σ.2.2.2.1).1 : Int) = 6 then (G 76 [.inr (.inr σ.2.2.2.1)] s1).bind fun q2 => if (q2.2.1 x0).1 = 10 then let s3 : zM := zi_wq q2.2 x0 3 σ.2.2.2.1; if (0 : Int) ≤ 2 ∧ (2 : Int) ≤ 100000 then let s4 : zM := zi_new s3 15 2 (Int.toNat 2); if (s4.1 x0).1 = 10 then let s5 : zM := zi_wq s4 x0 4 s3.2.2.2.1; if (0 : Int) ≤ 4 ∧ (4 : Int) ≤ 100000 then let s6 : zM := zi_new s5 17 4 (Int.toNat 4); if (s6.1 x0).1 = 10 then let s7 : zM := zi_wq s6 x0 5 s5.2.2.2.1; let s8 : zM := zi_new s7 1 0 4; if ((s8.1 s7.2.2.2.1).1 : Int) = 1 then (G 19 [.inr (.inr s7.2.2.2.1)] s8).bind fun q9 => if (q9.2.1 x0).1 = 10 then let s10 : zM := zi_wq q9.2 x0 6 s7.2.2.2.1; K 75 [some (.inr (.inr x0)), none] [] s10 else none else none else none else none else none else none else none else none) (zi_run zt_98 G n)) := zi_run_succ.trans ze_98_37
set_option maxRecDepth 20000 in
theorem ze_98_75 {G : Nat → List zV → zM → zR} {K : Nat → zL → List zV → zM → zR} {x0 : Int} {σ : zM} : zi_fr zt_98 G K 600 75 [some (.inr (.inr x0)), none] [] σ = (let s1 : zM := zi_new σ 1 0 4; if ((s1.1 σ.2.2.2.1).1 : Int) = 1 then (G 19 [.inr (.inr σ.2.2.2.1)] s1).bind fun q2 => if (q2.2.1 x0).1 = 10 then let s3 : zM := zi_wq q2.2 x0 7 σ.2.2.2.1; if (s3.1 x0).1 = 10 then let s4 : zM := zi_wr s3 x0 8 0; if (s4.1 x0).1 = 10 then let s5 : zM := zi_wr s4 x0 9 0; K 98 [some (.inr (.inr x0)), some (.inl 0)] [] s5 else none else none else none else none) := rfl
theorem zk_98_75 {G : Nat → List zV → zM → zR} {n : Nat} {x0 : Int} {σ : zM} : zi_run zt_98 G (n + 1) 75 [some (.inr (.inr x0)), none] [] σ = ((fun (K : Nat → zL → List zV → zM → zR) => let s1 : zM := zi_new σ 1 0 4; if ((s1.1 σ.2.2.2.1).1 : Int) = 1 then (G 19 [.inr (.inr σ.2.2.2.1)] s1).bind fun q2 => if (q2.2.1 x0).1 = 10 then let s3 : zM := zi_wq q2.2 x0 7 σ.2.2.2.1; if (s3.1 x0).1 = 10 then let s4 : zM := zi_wr s3 x0 8 0; if (s4.1 x0).1 = 10 then let s5 : zM := zi_wr s4 x0 9 0; K 98 [some (.inr (.inr x0)), some (.inl 0)] [] s5 else none else none else none else none) (zi_run zt_98 G n)) := zi_run_succ.trans ze_98_75
set_option maxRecDepth 20000 in
theorem ze_98_98 {G : Nat → List zV → zM → zR} {K : Nat → zL → List zV → zM → zR} {x0 x1 : Int} {σ : zM} : zi_fr zt_98 G K 600 98 [some (.inr (.inr x0)), some (.inl x1)] [] σ = (if (σ.1 x0).1 = 10 then if (σ.1 (σ.2.2.1 x0 4)).1 = 15 then if (x1 : Int) < (σ.1 (σ.2.2.1 x0 4)).2 then (if (σ.1 x0).1 = 10 then let s1 : zM := zi_new σ 3 0 3; if ((s1.1 σ.2.2.2.1).1 : Int) = 3 then (G 32 [.inr (.inr σ.2.2.2.1)] s1).bind fun q2 => if ((q2.2.1 (σ.2.2.1 x0 4)).1 = 15 ∧ (0 : Int) ≤ x1 ∧ x1 < (q2.2.1 (σ.2.2.1 x0 4)).2) ∧ ((q2.2.1 σ.2.2.2.1).1 : Int) = 3 then let s3 : zM := zi_wq q2.2 (σ.2.2.1 x0 4) x1 σ.2.2.2.1; K 98 [some (.inr (.inr x0)), some (.inl (zi_w (x1 + 1)))] [] s3 else none else none else none) else (K 128 [some (.inr (.inr x0)), some (.inl 0)] [] σ) else none else none) := rfl
theorem zk_98_98 {G : Nat → List zV → zM → zR} {n : Nat} {x0 x1 : Int} {σ : zM} : zi_run zt_98 G (n + 1) 98 [some (.inr (.inr x0)), some (.inl x1)] [] σ = ((fun (K : Nat → zL → List zV → zM → zR) => if (σ.1 x0).1 = 10 then if (σ.1 (σ.2.2.1 x0 4)).1 = 15 then if (x1 : Int) < (σ.1 (σ.2.2.1 x0 4)).2 then (if (σ.1 x0).1 = 10 then let s1 : zM := zi_new σ 3 0 3; if ((s1.1 σ.2.2.2.1).1 : Int) = 3 then (G 32 [.inr (.inr σ.2.2.2.1)] s1).bind fun q2 => if ((q2.2.1 (σ.2.2.1 x0 4)).1 = 15 ∧ (0 : Int) ≤ x1 ∧ x1 < (q2.2.1 (σ.2.2.1 x0 4)).2) ∧ ((q2.2.1 σ.2.2.2.1).1 : Int) = 3 then let s3 : zM := zi_wq q2.2 (σ.2.2.1 x0 4) x1 σ.2.2.2.1; K 98 [some (.inr (.inr x0)), some (.inl (zi_w (x1 + 1)))] [] s3 else none else none else none) else (K 128 [some (.inr (.inr x0)), some (.inl 0)] [] σ) else none else none) (zi_run zt_98 G n)) := zi_run_succ.trans ze_98_98
set_option maxRecDepth 20000 in
theorem ze_98_128 {G : Nat → List zV → zM → zR} {K : Nat → zL → List zV → zM → zR} {x0 x1 : Int} {σ : zM} : zi_fr zt_98 G K 600 128 [some (.inr (.inr x0)), some (.inl x1)] [] σ = (if (σ.1 x0).1 = 10 then if (σ.1 (σ.2.2.1 x0 5)).1 = 17 then if (x1 : Int) < (σ.1 (σ.2.2.1 x0 5)).2 then (if (σ.1 x0).1 = 10 then let s2 : zM := zi_new σ 8 0 4; if ((s2.1 σ.2.2.2.1).1 : Int) = 8 then (G 90 [.inr (.inr σ.2.2.2.1)] s2).bind fun q3 => if ((q3.2.1 (σ.2.2.1 x0 5)).1 = 17 ∧ (0 : Int) ≤ x1 ∧ x1 < (q3.2.1 (σ.2.2.1 x0 5)).2) ∧ ((q3.2.1 σ.2.2.2.1).1 : Int) = 8 then let s4 : zM := zi_wq q3.2 (σ.2.2.1 x0 5) x1 σ.2.2.2.1; K 128 [some (.inr (.inr x0)), some (.inl (zi_w (x1 + 1)))] [] s4 else none else none else none) else (if ((σ.1 x0).1 : Int) = 10 then (G 125 [.inr (.inr x0)] σ).bind fun q1 => some (0, q1.2) else none) else none else none) := rfl
theorem zk_98_128 {G : Nat → List zV → zM → zR} {n : Nat} {x0 x1 : Int} {σ : zM} : zi_run zt_98 G (n + 1) 128 [some (.inr (.inr x0)), some (.inl x1)] [] σ = ((fun (K : Nat → zL → List zV → zM → zR) => if (σ.1 x0).1 = 10 then if (σ.1 (σ.2.2.1 x0 5)).1 = 17 then if (x1 : Int) < (σ.1 (σ.2.2.1 x0 5)).2 then (if (σ.1 x0).1 = 10 then let s2 : zM := zi_new σ 8 0 4; if ((s2.1 σ.2.2.2.1).1 : Int) = 8 then (G 90 [.inr (.inr σ.2.2.2.1)] s2).bind fun q3 => if ((q3.2.1 (σ.2.2.1 x0 5)).1 = 17 ∧ (0 : Int) ≤ x1 ∧ x1 < (q3.2.1 (σ.2.2.1 x0 5)).2) ∧ ((q3.2.1 σ.2.2.2.1).1 : Int) = 8 then let s4 : zM := zi_wq q3.2 (σ.2.2.1 x0 5) x1 σ.2.2.2.1; K 128 [some (.inr (.inr x0)), some (.inl (zi_w (x1 + 1)))] [] s4 else none else none else none) else (if ((σ.1 x0).1 : Int) = 10 then (G 125 [.inr (.inr x0)] σ).bind fun q1 => some (0, q1.2) else none) else none else none) (zi_run zt_98 G n)) := zi_run_succ.trans ze_98_128
-- FoldedRows.feed(I)I
set_option maxRecDepth 20000 in
theorem ze_99_0 {G : Nat → List zV → zM → zR} {K : Nat → zL → List zV → zM → zR} {x0 x1 : Int} {σ : zM} : zi_fr zt_99 G K 600 0 [some (.inr (.inr x0)), some (.inl x1)] [] σ = (if (x1 : Int) < 0 then (some ((-1), σ)) else (if (127 : Int) < x1 then (some ((-1), σ)) else (if (σ.1 x0).1 = 10 then if ((σ.1 (σ.2.2.1 x0 0)).1 : Int) = 9 then (G 92 [.inr (.inr (σ.2.2.1 x0 0)), .inl x1] σ).bind fun q1 => if (q1.1 : Int) = 0 then (some ((-3), q1.2)) else (if (q1.2.1 x0).1 = 10 then if (q1.2.1 (q1.2.2.2.1 x0 0)).1 = 9 then some ((q1.2.2.1 (q1.2.2.2.1 x0 0) 2), q1.2) else none else none) else none else none))) := rfl
theorem zm_99 {d : Nat} {x0 x1 : Int} {σ : zM} : zG (d + 1) 99 [.inr (.inr x0), .inl x1] σ = ((fun (G : Nat → List zV → zM → zR) (K : Nat → zL → List zV → zM → zR) => if (x1 : Int) < 0 then (some ((-1), σ)) else (if (127 : Int) < x1 then (some ((-1), σ)) else (if (σ.1 x0).1 = 10 then if ((σ.1 (σ.2.2.1 x0 0)).1 : Int) = 9 then (G 92 [.inr (.inr (σ.2.2.1 x0 0)), .inl x1] σ).bind fun q1 => if (q1.1 : Int) = 0 then (some ((-3), q1.2)) else (if (q1.2.1 x0).1 = 10 then if (q1.2.1 (q1.2.2.2.1 x0 0)).1 = 9 then some ((q1.2.2.1 (q1.2.2.2.1 x0 0) 2), q1.2) else none else none) else none else none))) (zG d) (zi_run zt_99 (zG d) 19999)) := (zG_eq zt_99 rfl rfl rfl).trans ze_99_0
-- FoldedRows.text()I
set_option maxRecDepth 20000 in
theorem ze_100_0 {G : Nat → List zV → zM → zR} {K : Nat → zL → List zV → zM → zR} {x0 : Int} {σ : zM} : zi_fr zt_100 G K 600 0 [some (.inr (.inr x0)), none, none, none] [] σ = (if (σ.1 x0).1 = 10 then if (σ.1 x0).1 = 10 then if ((σ.1 (σ.2.2.1 x0 0)).1 : Int) = 9 then (G 93 [.inr (.inr (σ.2.2.1 x0 0)), .inr (.inr (σ.2.2.1 x0 7))] σ).bind fun q1 => if (q1.2.1 x0).1 = 10 then let s2 : zM := zi_wr q1.2 x0 9 q1.1; if (s2.1 x0).1 = 10 then if (s2.1 (s2.2.2.1 x0 0)).1 = 9 then if (s2.1 x0).1 = 10 then if (s2.1 (s2.2.2.1 x0 0)).1 = 9 then let s3 : zM := zi_wr s2 (s2.2.2.1 x0 0) 2 0; if (s3.1 x0).1 = 10 then if ((s3.2.1 x0 9) : Int) = 0 then (if (s3.1 x0).1 = 10 then if (s3.1 x0).1 = 10 then if (s3.1 x0).1 = 10 then let s4 : zM := zi_wq s3 x0 7 (s3.2.2.1 x0 6); if (s4.1 x0).1 = 10 then let s5 : zM := zi_wq s4 x0 6 (s3.2.2.1 x0 7); if (s5.1 x0).1 = 10 then if ((s5.1 (s5.2.2.1 x0 2)).1 : Int) = 2 then (G 26 [.inr (.inr (s5.2.2.1 x0 2))] s5).bind fun q6 => K 70 [some (.inr (.inr x0)), none, none, some (.inl 0)] [] q6.2 else none else none else none else none else none else none) else (some ((zi_w ((-10) - (s2.2.1 (s2.2.2.1 x0 0) 3))), s3)) else none else none else none else none else none else none else none else none else none) := rfl
theorem zm_100 {d : Nat} {x0 : Int} {σ : zM} : zG (d + 1) 100 [.inr (.inr x0)] σ = ((fun (G : Nat → List zV → zM → zR) (K : Nat → zL → List zV → zM → zR) => if (σ.1 x0).1 = 10 then if (σ.1 x0).1 = 10 then if ((σ.1 (σ.2.2.1 x0 0)).1 : Int) = 9 then (G 93 [.inr (.inr (σ.2.2.1 x0 0)), .inr (.inr (σ.2.2.1 x0 7))] σ).bind fun q1 => if (q1.2.1 x0).1 = 10 then let s2 : zM := zi_wr q1.2 x0 9 q1.1; if (s2.1 x0).1 = 10 then if (s2.1 (s2.2.2.1 x0 0)).1 = 9 then if (s2.1 x0).1 = 10 then if (s2.1 (s2.2.2.1 x0 0)).1 = 9 then let s3 : zM := zi_wr s2 (s2.2.2.1 x0 0) 2 0; if (s3.1 x0).1 = 10 then if ((s3.2.1 x0 9) : Int) = 0 then (if (s3.1 x0).1 = 10 then if (s3.1 x0).1 = 10 then if (s3.1 x0).1 = 10 then let s4 : zM := zi_wq s3 x0 7 (s3.2.2.1 x0 6); if (s4.1 x0).1 = 10 then let s5 : zM := zi_wq s4 x0 6 (s3.2.2.1 x0 7); if (s5.1 x0).1 = 10 then if ((s5.1 (s5.2.2.1 x0 2)).1 : Int) = 2 then (G 26 [.inr (.inr (s5.2.2.1 x0 2))] s5).bind fun q6 => K 70 [some (.inr (.inr x0)), none, none, some (.inl 0)] [] q6.2 else none else none else none else none else none else none) else (some ((zi_w ((-10) - (s2.2.1 (s2.2.2.1 x0 0) 3))), s3)) else none else none else none else none else none else none else none else none else none) (zG d) (zi_run zt_100 (zG d) 19999)) := (zG_eq zt_100 rfl rfl rfl).trans ze_100_0
set_option maxRecDepth 20000 in
theorem ze_100_70 {G : Nat → List zV → zM → zR} {K : Nat → zL → List zV → zM → zR} {x0 x3 : Int} {σ : zM} : zi_fr zt_100 G K 600 70 [some (.inr (.inr x0)), none, none, some (.inl x3)] [] σ = (if (x3 : Int) < 2 then (if ((σ.1 x0).1 : Int) = 10 then (G 132 [.inr (.inr x0), .inl x3] σ).bind fun q2 => K 70 [some (.inr (.inr x0)), none, none, some (.inl (zi_w (x3 + 1)))] [] q2.2 else none) else (if ((σ.1 x0).1 : Int) = 10 then (G 125 [.inr (.inr x0)] σ).bind fun q1 => if (q1.2.1 x0).1 = 10 then if (q1.2.1 (q1.2.2.2.1 x0 6)).1 = 1 then if (q1.2.1 (q1.2.2.2.1 (q1.2.2.2.1 x0 6) 0)).1 = 5 then some ((q1.2.2.1 (q1.2.2.2.1 (q1.2.2.2.1 x0 6) 0) 0), q1.2) else none else none else none else none)) := rfl
theorem zk_100_70 {G : Nat → List zV → zM → zR} {n : Nat} {x0 x3 : Int} {σ : zM} : zi_run zt_100 G (n + 1) 70 [some (.inr (.inr x0)), none, none, some (.inl x3)] [] σ = ((fun (K : Nat → zL → List zV → zM → zR) => if (x3 : Int) < 2 then (if ((σ.1 x0).1 : Int) = 10 then (G 132 [.inr (.inr x0), .inl x3] σ).bind fun q2 => K 70 [some (.inr (.inr x0)), none, none, some (.inl (zi_w (x3 + 1)))] [] q2.2 else none) else (if ((σ.1 x0).1 : Int) = 10 then (G 125 [.inr (.inr x0)] σ).bind fun q1 => if (q1.2.1 x0).1 = 10 then if (q1.2.1 (q1.2.2.2.1 x0 6)).1 = 1 then if (q1.2.1 (q1.2.2.2.1 (q1.2.2.2.1 x0 6) 0)).1 = 5 then some ((q1.2.2.1 (q1.2.2.2.1 (q1.2.2.2.1 x0 6) 0) 0), q1.2) else none else none else none else none)) (zi_run zt_100 G n)) := zi_run_succ.trans ze_100_70
-- FoldedRows.fault()I
set_option maxRecDepth 20000 in
theorem ze_101_0 {G : Nat → List zV → zM → zR} {K : Nat → zL → List zV → zM → zR} {x0 : Int} {σ : zM} : zi_fr zt_101 G K 600 0 [some (.inr (.inr x0))] [] σ = (if (σ.1 x0).1 = 10 then some ((σ.2.1 x0 9), σ) else none) := rfl
theorem zm_101 {d : Nat} {x0 : Int} {σ : zM} : zG (d + 1) 101 [.inr (.inr x0)] σ = ((fun (G : Nat → List zV → zM → zR) (K : Nat → zL → List zV → zM → zR) => if (σ.1 x0).1 = 10 then some ((σ.2.1 x0 9), σ) else none) (zG d) (zi_run zt_101 (zG d) 19999)) := (zG_eq zt_101 rfl rfl rfl).trans ze_101_0
-- FoldedRows.rule(I)I
set_option maxRecDepth 20000 in
theorem ze_102_0 {G : Nat → List zV → zM → zR} {K : Nat → zL → List zV → zM → zR} {x0 x1 : Int} {σ : zM} : zi_fr zt_102 G K 600 0 [some (.inr (.inr x0)), some (.inl x1)] [] σ = (if x1 = 0 then (if (σ.1 x0).1 = 10 then if (σ.1 (σ.2.2.1 x0 6)).1 = 1 then if (σ.1 (σ.2.2.1 (σ.2.2.1 x0 6) 0)).1 = 5 then some ((σ.2.1 (σ.2.2.1 (σ.2.2.1 x0 6) 0) 0), σ) else none else none else none) else (if x1 = 1 then (if (σ.1 x0).1 = 10 then if (σ.1 (σ.2.2.1 x0 6)).1 = 1 then if ((σ.1 (σ.2.2.1 (σ.2.2.1 x0 6) 0)).1 : Int) = 5 then (G 59 [.inr (.inr (σ.2.2.1 (σ.2.2.1 x0 6) 0))] σ).bind fun q5 => some (q5.1, q5.2) else none else none else none) else (if x1 = 2 then (if (σ.1 x0).1 = 10 then if (σ.1 x0).1 = 10 then if ((σ.1 (σ.2.2.1 x0 3)).1 : Int) = 6 then (G 79 [.inr (.inr (σ.2.2.1 x0 3)), .inr (.inr (σ.2.2.1 x0 6))] σ).bind fun q4 => some (q4.1, q4.2) else none else none else none) else (if x1 = 3 then (if (σ.1 x0).1 = 10 then if ((σ.1 (σ.2.2.1 x0 6)).1 : Int) = 1 then (G 22 [.inr (.inr (σ.2.2.1 x0 6))] σ).bind fun q3 => some (q3.1, q3.2) else none else none) else (if x1 = 4 then (if (σ.1 x0).1 = 10 then if (σ.1 (σ.2.2.1 x0 6)).1 = 1 then if (σ.1 (σ.2.2.1 (σ.2.2.1 x0 6) 1)).1 = 0 then some ((σ.2.1 (σ.2.2.1 (σ.2.2.1 x0 6) 1) 0), σ) else none else none else none) else (if x1 = 5 then (if (σ.1 x0).1 = 10 then if (σ.1 (σ.2.2.1 x0 6)).1 = 1 then if ((σ.1 (σ.2.2.1 (σ.2.2.1 x0 6) 1)).1 : Int) = 0 then (G 6 [.inr (.inr (σ.2.2.1 (σ.2.2.1 x0 6) 1))] σ).bind fun q2 => some (q2.1, q2.2) else none else none else none) else (if x1 = 6 then (if (σ.1 x0).1 = 10 then if (σ.1 (σ.2.2.1 x0 1)).1 = 7 then some ((σ.2.1 (σ.2.2.1 x0 1) 0), σ) else none else none) else (if x1 = 7 then (if (σ.1 x0).1 = 10 then if (σ.1 (σ.2.2.1 x0 1)).1 = 7 then some ((σ.2.1 (σ.2.2.1 x0 1) 1), σ) else none else none) else (if x1 = 8 then (if (σ.1 x0).1 = 10 then if (σ.1 (σ.2.2.1 x0 1)).1 = 7 then some ((σ.2.1 (σ.2.2.1 x0 1) 2), σ) else none else none) else (if x1 = 9 then (if (σ.1 x0).1 = 10 then if (σ.1 (σ.2.2.1 x0 1)).1 = 7 then some ((σ.2.1 (σ.2.2.1 x0 1) 3), σ) else none else none) else (if x1 = 10 then (if (σ.1 x0).1 = 10 then if (σ.1 (σ.2.2.1 x0 2)).1 = 2 then some ((σ.2.1 (σ.2.2.1 x0 2) 1), σ) else none else none) else (if x1 = 11 then (if (σ.1 x0).1 = 10 then if (σ.1 (σ.2.2.1 x0 2)).1 = 2 then some ((σ.2.1 (σ.2.2.1 x0 2) 2), σ) else none else none) else (if x1 = 12 then (if (σ.1 x0).1 = 10 then if (σ.1 (σ.2.2.1 x0 0)).1 = 9 then some ((σ.2.1 (σ.2.2.1 x0 0) 2), σ) else none else none) else (if x1 = 13 then (if ((σ.1 x0).1 : Int) = 10 then (G 131 [.inr (.inr x0)] σ).bind fun q1 => some (q1.1, q1.2) else none) else (some ((-1), σ)))))))))))))))) := rfl
theorem zm_102 {d : Nat} {x0 x1 : Int} {σ : zM} : zG (d + 1) 102 [.inr (.inr x0), .inl x1] σ = ((fun (G : Nat → List zV → zM → zR) (K : Nat → zL → List zV → zM → zR) => if x1 = 0 then (if (σ.1 x0).1 = 10 then if (σ.1 (σ.2.2.1 x0 6)).1 = 1 then if (σ.1 (σ.2.2.1 (σ.2.2.1 x0 6) 0)).1 = 5 then some ((σ.2.1 (σ.2.2.1 (σ.2.2.1 x0 6) 0) 0), σ) else none else none else none) else (if x1 = 1 then (if (σ.1 x0).1 = 10 then if (σ.1 (σ.2.2.1 x0 6)).1 = 1 then if ((σ.1 (σ.2.2.1 (σ.2.2.1 x0 6) 0)).1 : Int) = 5 then (G 59 [.inr (.inr (σ.2.2.1 (σ.2.2.1 x0 6) 0))] σ).bind fun q5 => some (q5.1, q5.2) else none else none else none) else (if x1 = 2 then (if (σ.1 x0).1 = 10 then if (σ.1 x0).1 = 10 then if ((σ.1 (σ.2.2.1 x0 3)).1 : Int) = 6 then (G 79 [.inr (.inr (σ.2.2.1 x0 3)), .inr (.inr (σ.2.2.1 x0 6))] σ).bind fun q4 => some (q4.1, q4.2) else none else none else none) else (if x1 = 3 then (if (σ.1 x0).1 = 10 then if ((σ.1 (σ.2.2.1 x0 6)).1 : Int) = 1 then (G 22 [.inr (.inr (σ.2.2.1 x0 6))] σ).bind fun q3 => some (q3.1, q3.2) else none else none) else (if x1 = 4 then (if (σ.1 x0).1 = 10 then if (σ.1 (σ.2.2.1 x0 6)).1 = 1 then if (σ.1 (σ.2.2.1 (σ.2.2.1 x0 6) 1)).1 = 0 then some ((σ.2.1 (σ.2.2.1 (σ.2.2.1 x0 6) 1) 0), σ) else none else none else none) else (if x1 = 5 then (if (σ.1 x0).1 = 10 then if (σ.1 (σ.2.2.1 x0 6)).1 = 1 then if ((σ.1 (σ.2.2.1 (σ.2.2.1 x0 6) 1)).1 : Int) = 0 then (G 6 [.inr (.inr (σ.2.2.1 (σ.2.2.1 x0 6) 1))] σ).bind fun q2 => some (q2.1, q2.2) else none else none else none) else (if x1 = 6 then (if (σ.1 x0).1 = 10 then if (σ.1 (σ.2.2.1 x0 1)).1 = 7 then some ((σ.2.1 (σ.2.2.1 x0 1) 0), σ) else none else none) else (if x1 = 7 then (if (σ.1 x0).1 = 10 then if (σ.1 (σ.2.2.1 x0 1)).1 = 7 then some ((σ.2.1 (σ.2.2.1 x0 1) 1), σ) else none else none) else (if x1 = 8 then (if (σ.1 x0).1 = 10 then if (σ.1 (σ.2.2.1 x0 1)).1 = 7 then some ((σ.2.1 (σ.2.2.1 x0 1) 2), σ) else none else none) else (if x1 = 9 then (if (σ.1 x0).1 = 10 then if (σ.1 (σ.2.2.1 x0 1)).1 = 7 then some ((σ.2.1 (σ.2.2.1 x0 1) 3), σ) else none else none) else (if x1 = 10 then (if (σ.1 x0).1 = 10 then if (σ.1 (σ.2.2.1 x0 2)).1 = 2 then some ((σ.2.1 (σ.2.2.1 x0 2) 1), σ) else none else none) else (if x1 = 11 then (if (σ.1 x0).1 = 10 then if (σ.1 (σ.2.2.1 x0 2)).1 = 2 then some ((σ.2.1 (σ.2.2.1 x0 2) 2), σ) else none else none) else (if x1 = 12 then (if (σ.1 x0).1 = 10 then if (σ.1 (σ.2.2.1 x0 0)).1 = 9 then some ((σ.2.1 (σ.2.2.1 x0 0) 2), σ) else none else none) else (if x1 = 13 then (if ((σ.1 x0).1 : Int) = 10 then (G 131 [.inr (.inr x0)] σ).bind fun q1 => some (q1.1, q1.2) else none) else (some ((-1), σ)))))))))))))))) (zG d) (zi_run zt_102 (zG d) 19999)) := (zG_eq zt_102 rfl rfl rfl).trans ze_102_0
-- FoldedRows.sign(II)I
set_option maxRecDepth 20000 in
theorem ze_103_0 {G : Nat → List zV → zM → zR} {K : Nat → zL → List zV → zM → zR} {x0 x1 x2 : Int} {σ : zM} : zi_fr zt_103 G K 600 0 [some (.inr (.inr x0)), some (.inl x1), some (.inl x2)] [] σ = (if (σ.1 x0).1 = 10 then if (σ.1 (σ.2.2.1 x0 6)).1 = 1 then if ((σ.1 (σ.2.2.1 (σ.2.2.1 x0 6) 0)).1 : Int) = 5 then (G 56 [.inr (.inr (σ.2.2.1 (σ.2.2.1 x0 6) 0)), .inl x1] σ).bind fun q1 => if (q1.1 : Int) = 0 then (some ((-1), q1.2)) else (if (x2 : Int) < 0 then (some ((-1), q1.2)) else (if (q1.2.1 x0).1 = 10 then if (q1.2.1 (q1.2.2.2.1 x0 6)).1 = 1 then if ((q1.2.1 (q1.2.2.2.1 (q1.2.2.2.1 x0 6) 0)).1 : Int) = 5 then (G 58 [.inr (.inr (q1.2.2.2.1 (q1.2.2.2.1 x0 6) 0)), .inl x1] q1.2).bind fun q2 => if (x2 : Int) < q2.1 then (if (q2.2.1 x0).1 = 10 then if (q2.2.1 (q2.2.2.2.1 x0 6)).1 = 1 then if ((q2.2.1 (q2.2.2.2.1 (q2.2.2.2.1 x0 6) 0)).1 : Int) = 5 then (G 60 [.inr (.inr (q2.2.2.2.1 (q2.2.2.2.1 x0 6) 0)), .inl x1, .inl x2] q2.2).bind fun q3 => some (q3.1, q3.2) else none else none else none) else (some ((-4), q2.2)) else none else none else none)) else none else none else none) := rfl
theorem zm_103 {d : Nat} {x0 x1 x2 : Int} {σ : zM} : zG (d + 1) 103 [.inr (.inr x0), .inl x1, .inl x2] σ = ((fun (G : Nat → List zV → zM → zR) (K : Nat → zL → List zV → zM → zR) => if (σ.1 x0).1 = 10 then if (σ.1 (σ.2.2.1 x0 6)).1 = 1 then if ((σ.1 (σ.2.2.1 (σ.2.2.1 x0 6) 0)).1 : Int) = 5 then (G 56 [.inr (.inr (σ.2.2.1 (σ.2.2.1 x0 6) 0)), .inl x1] σ).bind fun q1 => if (q1.1 : Int) = 0 then (some ((-1), q1.2)) else (if (x2 : Int) < 0 then (some ((-1), q1.2)) else (if (q1.2.1 x0).1 = 10 then if (q1.2.1 (q1.2.2.2.1 x0 6)).1 = 1 then if ((q1.2.1 (q1.2.2.2.1 (q1.2.2.2.1 x0 6) 0)).1 : Int) = 5 then (G 58 [.inr (.inr (q1.2.2.2.1 (q1.2.2.2.1 x0 6) 0)), .inl x1] q1.2).bind fun q2 => if (x2 : Int) < q2.1 then (if (q2.2.1 x0).1 = 10 then if (q2.2.1 (q2.2.2.2.1 x0 6)).1 = 1 then if ((q2.2.1 (q2.2.2.2.1 (q2.2.2.2.1 x0 6) 0)).1 : Int) = 5 then (G 60 [.inr (.inr (q2.2.2.2.1 (q2.2.2.2.1 x0 6) 0)), .inl x1, .inl x2] q2.2).bind fun q3 => some (q3.1, q3.2) else none else none else none) else (some ((-4), q2.2)) else none else none else none)) else none else none else none) (zG d) (zi_run zt_103 (zG d) 19999)) := (zG_eq zt_103 rfl rfl rfl).trans ze_103_0
-- FoldedRows.line(II)I
set_option maxRecDepth 20000 in
theorem ze_104_0 {G : Nat → List zV → zM → zR} {K : Nat → zL → List zV → zM → zR} {x0 x1 x2 : Int} {σ : zM} : zi_fr zt_104 G K 600 0 [some (.inr (.inr x0)), some (.inl x1), some (.inl x2), none] [] σ = (if (σ.1 x0).1 = 10 then if (σ.1 (σ.2.2.1 x0 6)).1 = 1 then if ((σ.1 (σ.2.2.1 (σ.2.2.1 x0 6) 0)).1 : Int) = 5 then (G 56 [.inr (.inr (σ.2.2.1 (σ.2.2.1 x0 6) 0)), .inl x1] σ).bind fun q1 => if (q1.1 : Int) = 0 then (some ((-1), q1.2)) else (if (q1.2.1 x0).1 = 10 then if ((q1.2.1 (q1.2.2.2.1 x0 3)).1 : Int) = 6 then (G 77 [.inr (.inr (q1.2.2.2.1 x0 3)), .inl x1] q1.2).bind fun q2 => if x2 = 0 then (if (q2.2.1 x0).1 = 10 then if (q2.2.1 (q2.2.2.2.1 x0 6)).1 = 1 then if ((q2.2.1 (q2.2.2.2.1 (q2.2.2.2.1 x0 6) 0)).1 : Int) = 5 then (G 58 [.inr (.inr (q2.2.2.2.1 (q2.2.2.2.1 x0 6) 0)), .inl x1] q2.2).bind fun q8 => some (q8.1, q8.2) else none else none else none) else (if x2 = 1 then (if (q2.2.1 q2.1).1 = 4 then some ((q2.2.2.1 q2.1 1), q2.2) else none) else (if x2 = 2 then (if (q2.2.1 x0).1 = 10 then if (q2.2.1 (q2.2.2.2.1 x0 6)).1 = 1 then if ((q2.2.1 (q2.2.2.2.1 (q2.2.2.2.1 x0 6) 1)).1 : Int) = 0 then (G 8 [.inr (.inr (q2.2.2.2.1 (q2.2.2.2.1 x0 6) 1)), .inl x1] q2.2).bind fun q6 => if (q6.1 : Int) = 0 then (if (q6.2.1 x0).1 = 10 then if (q6.2.1 x0).1 = 10 then if ((q6.2.1 (q6.2.2.2.1 x0 3)).1 : Int) = 6 then (G 80 [.inr (.inr (q6.2.2.2.1 x0 3)), .inr (.inr (q6.2.2.2.1 x0 6)), .inl x1] q6.2).bind fun q7 => some (q7.1, q7.2) else none else none else none) else (some ((-4), q6.2)) else none else none else none) else (if x2 = 3 then (if (q2.2.1 q2.1).1 = 4 then some ((q2.2.2.1 q2.1 2), q2.2) else none) else (if x2 = 4 then (if ((q2.2.1 q2.1).1 : Int) = 4 then (G 35 [.inr (.inr q2.1)] q2.2).bind fun q5 => some (q5.1, q5.2) else none) else (if x2 = 5 then (if ((q2.2.1 q2.1).1 : Int) = 4 then (G 36 [.inr (.inr q2.1)] q2.2).bind fun q4 => some (q4.1, q4.2) else none) else (if x2 = 6 then (if ((q2.2.1 q2.1).1 : Int) = 4 then (G 37 [.inr (.inr q2.1)] q2.2).bind fun q3 => some (q3.1, q3.2) else none) else (some ((-1), q2.2)))))))) else none else none) else none else none else none) := rfl
theorem zm_104 {d : Nat} {x0 x1 x2 : Int} {σ : zM} : zG (d + 1) 104 [.inr (.inr x0), .inl x1, .inl x2] σ = ((fun (G : Nat → List zV → zM → zR) (K : Nat → zL → List zV → zM → zR) => if (σ.1 x0).1 = 10 then if (σ.1 (σ.2.2.1 x0 6)).1 = 1 then if ((σ.1 (σ.2.2.1 (σ.2.2.1 x0 6) 0)).1 : Int) = 5 then (G 56 [.inr (.inr (σ.2.2.1 (σ.2.2.1 x0 6) 0)), .inl x1] σ).bind fun q1 => if (q1.1 : Int) = 0 then (some ((-1), q1.2)) else (if (q1.2.1 x0).1 = 10 then if ((q1.2.1 (q1.2.2.2.1 x0 3)).1 : Int) = 6 then (G 77 [.inr (.inr (q1.2.2.2.1 x0 3)), .inl x1] q1.2).bind fun q2 => if x2 = 0 then (if (q2.2.1 x0).1 = 10 then if (q2.2.1 (q2.2.2.2.1 x0 6)).1 = 1 then if ((q2.2.1 (q2.2.2.2.1 (q2.2.2.2.1 x0 6) 0)).1 : Int) = 5 then (G 58 [.inr (.inr (q2.2.2.2.1 (q2.2.2.2.1 x0 6) 0)), .inl x1] q2.2).bind fun q8 => some (q8.1, q8.2) else none else none else none) else (if x2 = 1 then (if (q2.2.1 q2.1).1 = 4 then some ((q2.2.2.1 q2.1 1), q2.2) else none) else (if x2 = 2 then (if (q2.2.1 x0).1 = 10 then if (q2.2.1 (q2.2.2.2.1 x0 6)).1 = 1 then if ((q2.2.1 (q2.2.2.2.1 (q2.2.2.2.1 x0 6) 1)).1 : Int) = 0 then (G 8 [.inr (.inr (q2.2.2.2.1 (q2.2.2.2.1 x0 6) 1)), .inl x1] q2.2).bind fun q6 => if (q6.1 : Int) = 0 then (if (q6.2.1 x0).1 = 10 then if (q6.2.1 x0).1 = 10 then if ((q6.2.1 (q6.2.2.2.1 x0 3)).1 : Int) = 6 then (G 80 [.inr (.inr (q6.2.2.2.1 x0 3)), .inr (.inr (q6.2.2.2.1 x0 6)), .inl x1] q6.2).bind fun q7 => some (q7.1, q7.2) else none else none else none) else (some ((-4), q6.2)) else none else none else none) else (if x2 = 3 then (if (q2.2.1 q2.1).1 = 4 then some ((q2.2.2.1 q2.1 2), q2.2) else none) else (if x2 = 4 then (if ((q2.2.1 q2.1).1 : Int) = 4 then (G 35 [.inr (.inr q2.1)] q2.2).bind fun q5 => some (q5.1, q5.2) else none) else (if x2 = 5 then (if ((q2.2.1 q2.1).1 : Int) = 4 then (G 36 [.inr (.inr q2.1)] q2.2).bind fun q4 => some (q4.1, q4.2) else none) else (if x2 = 6 then (if ((q2.2.1 q2.1).1 : Int) = 4 then (G 37 [.inr (.inr q2.1)] q2.2).bind fun q3 => some (q3.1, q3.2) else none) else (some ((-1), q2.2)))))))) else none else none) else none else none else none) (zG d) (zi_run zt_104 (zG d) 19999)) := (zG_eq zt_104 rfl rfl rfl).trans ze_104_0
-- FoldedRows.row(II)I
set_option maxRecDepth 20000 in
theorem ze_105_0 {G : Nat → List zV → zM → zR} {K : Nat → zL → List zV → zM → zR} {x0 x1 x2 : Int} {σ : zM} : zi_fr zt_105 G K 600 0 [some (.inr (.inr x0)), some (.inl x1), some (.inl x2), none, none, none] [] σ = (if (σ.1 x0).1 = 10 then if (σ.1 x0).1 = 10 then if ((σ.1 (σ.2.2.1 x0 3)).1 : Int) = 6 then (G 82 [.inr (.inr (σ.2.2.1 x0 3)), .inr (.inr (σ.2.2.1 x0 6)), .inl x1] σ).bind fun q1 => if (q1.1 : Int) < 0 then (some ((-1), q1.2)) else (if (q1.2.1 x0).1 = 10 then if ((q1.2.1 (q1.2.2.2.1 x0 3)).1 : Int) = 6 then (G 77 [.inr (.inr (q1.2.2.2.1 x0 3)), .inl q1.1] q1.2).bind fun q2 => if (q2.2.1 x0).1 = 10 then if (q2.2.1 x0).1 = 10 then if ((q2.2.1 (q2.2.2.2.1 x0 3)).1 : Int) = 6 then (G 80 [.inr (.inr (q2.2.2.2.1 x0 3)), .inr (.inr (q2.2.2.2.1 x0 6)), .inl q1.1] q2.2).bind fun q3 => if x2 = 0 then (some (q1.1, q3.2)) else (if x2 = 1 then (if ((q3.2.1 q2.1).1 : Int) = 4 then (G 42 [.inr (.inr q2.1), .inl (zi_w (x1 - q3.1))] q3.2).bind fun q7 => some (q7.1, q7.2) else none) else (if x2 = 2 then (if ((q3.2.1 q2.1).1 : Int) = 4 then (G 42 [.inr (.inr q2.1), .inl (zi_w ((zi_w (x1 - q3.1)) + 1))] q3.2).bind fun q6 => some (q6.1, q6.2) else none) else (if x2 = 3 then (if ((q3.2.1 q2.1).1 : Int) = 4 then (G 43 [.inr (.inr q2.1), .inl (zi_w (x1 - q3.1))] q3.2).bind fun q5 => some (q5.1, q5.2) else none) else (if x2 = 4 then (if ((q3.2.1 q2.1).1 : Int) = 4 then (G 44 [.inr (.inr q2.1), .inl (zi_w (x1 - q3.1))] q3.2).bind fun q4 => some (q4.1, q4.2) else none) else (some ((-1), q3.2)))))) else none else none else none else none else none) else none else none else none) := rfl
theorem zm_105 {d : Nat} {x0 x1 x2 : Int} {σ : zM} : zG (d + 1) 105 [.inr (.inr x0), .inl x1, .inl x2] σ = ((fun (G : Nat → List zV → zM → zR) (K : Nat → zL → List zV → zM → zR) => if (σ.1 x0).1 = 10 then if (σ.1 x0).1 = 10 then if ((σ.1 (σ.2.2.1 x0 3)).1 : Int) = 6 then (G 82 [.inr (.inr (σ.2.2.1 x0 3)), .inr (.inr (σ.2.2.1 x0 6)), .inl x1] σ).bind fun q1 => if (q1.1 : Int) < 0 then (some ((-1), q1.2)) else (if (q1.2.1 x0).1 = 10 then if ((q1.2.1 (q1.2.2.2.1 x0 3)).1 : Int) = 6 then (G 77 [.inr (.inr (q1.2.2.2.1 x0 3)), .inl q1.1] q1.2).bind fun q2 => if (q2.2.1 x0).1 = 10 then if (q2.2.1 x0).1 = 10 then if ((q2.2.1 (q2.2.2.2.1 x0 3)).1 : Int) = 6 then (G 80 [.inr (.inr (q2.2.2.2.1 x0 3)), .inr (.inr (q2.2.2.2.1 x0 6)), .inl q1.1] q2.2).bind fun q3 => if x2 = 0 then (some (q1.1, q3.2)) else (if x2 = 1 then (if ((q3.2.1 q2.1).1 : Int) = 4 then (G 42 [.inr (.inr q2.1), .inl (zi_w (x1 - q3.1))] q3.2).bind fun q7 => some (q7.1, q7.2) else none) else (if x2 = 2 then (if ((q3.2.1 q2.1).1 : Int) = 4 then (G 42 [.inr (.inr q2.1), .inl (zi_w ((zi_w (x1 - q3.1)) + 1))] q3.2).bind fun q6 => some (q6.1, q6.2) else none) else (if x2 = 3 then (if ((q3.2.1 q2.1).1 : Int) = 4 then (G 43 [.inr (.inr q2.1), .inl (zi_w (x1 - q3.1))] q3.2).bind fun q5 => some (q5.1, q5.2) else none) else (if x2 = 4 then (if ((q3.2.1 q2.1).1 : Int) = 4 then (G 44 [.inr (.inr q2.1), .inl (zi_w (x1 - q3.1))] q3.2).bind fun q4 => some (q4.1, q4.2) else none) else (some ((-1), q3.2)))))) else none else none else none else none else none) else none else none else none) (zG d) (zi_run zt_105 (zG d) 19999)) := (zG_eq zt_105 rfl rfl rfl).trans ze_105_0
-- FoldedRows.cell(II)I
set_option maxRecDepth 20000 in
theorem ze_106_0 {G : Nat → List zV → zM → zR} {K : Nat → zL → List zV → zM → zR} {x0 x1 x2 : Int} {σ : zM} : zi_fr zt_106 G K 600 0 [some (.inr (.inr x0)), some (.inl x1), some (.inl x2), none, none] [] σ = (if (σ.1 x0).1 = 10 then if (σ.1 x0).1 = 10 then if ((σ.1 (σ.2.2.1 x0 3)).1 : Int) = 6 then (G 82 [.inr (.inr (σ.2.2.1 x0 3)), .inr (.inr (σ.2.2.1 x0 6)), .inl x1] σ).bind fun q1 => if (q1.1 : Int) < 0 then (some ((-1), q1.2)) else (if (x2 : Int) < 0 then (some ((-1), q1.2)) else (if (q1.2.1 x0).1 = 10 then if ((q1.2.1 (q1.2.2.2.1 x0 3)).1 : Int) = 6 then (G 77 [.inr (.inr (q1.2.2.2.1 x0 3)), .inl q1.1] q1.2).bind fun q2 => if (q2.2.1 x0).1 = 10 then if (q2.2.1 x0).1 = 10 then if ((q2.2.1 (q2.2.2.2.1 x0 3)).1 : Int) = 6 then (G 80 [.inr (.inr (q2.2.2.2.1 x0 3)), .inr (.inr (q2.2.2.2.1 x0 6)), .inl q1.1] q2.2).bind fun q3 => if ((q3.2.1 q2.1).1 : Int) = 4 then (G 45 [.inr (.inr q2.1), .inl (zi_w (x1 - q3.1)), .inl x2] q3.2).bind fun q4 => if (q4.1 : Int) < 0 then (some ((-4), q4.2)) else (some (q4.1, q4.2)) else none else none else none else none else none else none)) else none else none else none) := rfl
theorem zm_106 {d : Nat} {x0 x1 x2 : Int} {σ : zM} : zG (d + 1) 106 [.inr (.inr x0), .inl x1, .inl x2] σ = ((fun (G : Nat → List zV → zM → zR) (K : Nat → zL → List zV → zM → zR) => if (σ.1 x0).1 = 10 then if (σ.1 x0).1 = 10 then if ((σ.1 (σ.2.2.1 x0 3)).1 : Int) = 6 then (G 82 [.inr (.inr (σ.2.2.1 x0 3)), .inr (.inr (σ.2.2.1 x0 6)), .inl x1] σ).bind fun q1 => if (q1.1 : Int) < 0 then (some ((-1), q1.2)) else (if (x2 : Int) < 0 then (some ((-1), q1.2)) else (if (q1.2.1 x0).1 = 10 then if ((q1.2.1 (q1.2.2.2.1 x0 3)).1 : Int) = 6 then (G 77 [.inr (.inr (q1.2.2.2.1 x0 3)), .inl q1.1] q1.2).bind fun q2 => if (q2.2.1 x0).1 = 10 then if (q2.2.1 x0).1 = 10 then if ((q2.2.1 (q2.2.2.2.1 x0 3)).1 : Int) = 6 then (G 80 [.inr (.inr (q2.2.2.2.1 x0 3)), .inr (.inr (q2.2.2.2.1 x0 6)), .inl q1.1] q2.2).bind fun q3 => if ((q3.2.1 q2.1).1 : Int) = 4 then (G 45 [.inr (.inr q2.1), .inl (zi_w (x1 - q3.1)), .inl x2] q3.2).bind fun q4 => if (q4.1 : Int) < 0 then (some ((-4), q4.2)) else (some (q4.1, q4.2)) else none else none else none else none else none else none)) else none else none else none) (zG d) (zi_run zt_106 (zG d) 19999)) := (zG_eq zt_106 rfl rfl rfl).trans ze_106_0
-- FoldedRows.at(III)I
set_option maxRecDepth 20000 in
theorem ze_107_0 {G : Nat → List zV → zM → zR} {K : Nat → zL → List zV → zM → zR} {x0 x1 x2 x3 : Int} {σ : zM} : zi_fr zt_107 G K 600 0 [some (.inr (.inr x0)), some (.inl x1), some (.inl x2), some (.inl x3), none] [] σ = (if (σ.1 x0).1 = 10 then if (σ.1 (σ.2.2.1 x0 6)).1 = 1 then if ((σ.1 (σ.2.2.1 (σ.2.2.1 x0 6) 0)).1 : Int) = 5 then (G 57 [.inr (.inr (σ.2.2.1 (σ.2.2.1 x0 6) 0)), .inl x1, .inl x2] σ).bind fun q1 => if (q1.1 : Int) = 0 then (some ((-1), q1.2)) else (if (q1.2.1 x0).1 = 10 then if ((q1.2.1 (q1.2.2.2.1 x0 3)).1 : Int) = 6 then (G 77 [.inr (.inr (q1.2.2.2.1 x0 3)), .inl x1] q1.2).bind fun q2 => if x3 = 0 then (if (q2.2.1 x0).1 = 10 then if (q2.2.1 (q2.2.2.2.1 x0 6)).1 = 1 then if ((q2.2.1 (q2.2.2.2.1 (q2.2.2.2.1 x0 6) 1)).1 : Int) = 0 then (G 8 [.inr (.inr (q2.2.2.2.1 (q2.2.2.2.1 x0 6) 1)), .inl x1] q2.2).bind fun q6 => if (q6.1 : Int) = 0 then (if (q6.2.1 x0).1 = 10 then if (q6.2.1 x0).1 = 10 then if ((q6.2.1 (q6.2.2.2.1 x0 3)).1 : Int) = 6 then (G 81 [.inr (.inr (q6.2.2.2.1 x0 3)), .inr (.inr (q6.2.2.2.1 x0 6)), .inl x1, .inl x2] q6.2).bind fun q7 => some (q7.1, q7.2) else none else none else none) else (some ((-4), q6.2)) else none else none else none) else (if x3 = 1 then (if ((q2.2.1 q2.1).1 : Int) = 4 then (G 41 [.inr (.inr q2.1), .inl x2] q2.2).bind fun q5 => some (q5.1, q5.2) else none) else (if x3 = 2 then (if ((q2.2.1 q2.1).1 : Int) = 4 then (G 38 [.inr (.inr q2.1), .inl x2] q2.2).bind fun q4 => if (q4.1 : Int) = 0 then (some (0, q4.2)) else (some (1, q4.2)) else none) else (if x3 = 3 then (if ((q2.2.1 q2.1).1 : Int) = 4 then (G 39 [.inr (.inr q2.1), .inl x2] q2.2).bind fun q3 => if (q3.1 : Int) = 0 then (some (0, q3.2)) else (some (1, q3.2)) else none) else (some ((-1), q2.2))))) else none else none) else none else none else none) := rfl
theorem zm_107 {d : Nat} {x0 x1 x2 x3 : Int} {σ : zM} : zG (d + 1) 107 [.inr (.inr x0), .inl x1, .inl x2, .inl x3] σ = ((fun (G : Nat → List zV → zM → zR) (K : Nat → zL → List zV → zM → zR) => if (σ.1 x0).1 = 10 then if (σ.1 (σ.2.2.1 x0 6)).1 = 1 then if ((σ.1 (σ.2.2.1 (σ.2.2.1 x0 6) 0)).1 : Int) = 5 then (G 57 [.inr (.inr (σ.2.2.1 (σ.2.2.1 x0 6) 0)), .inl x1, .inl x2] σ).bind fun q1 => if (q1.1 : Int) = 0 then (some ((-1), q1.2)) else (if (q1.2.1 x0).1 = 10 then if ((q1.2.1 (q1.2.2.2.1 x0 3)).1 : Int) = 6 then (G 77 [.inr (.inr (q1.2.2.2.1 x0 3)), .inl x1] q1.2).bind fun q2 => if x3 = 0 then (if (q2.2.1 x0).1 = 10 then if (q2.2.1 (q2.2.2.2.1 x0 6)).1 = 1 then if ((q2.2.1 (q2.2.2.2.1 (q2.2.2.2.1 x0 6) 1)).1 : Int) = 0 then (G 8 [.inr (.inr (q2.2.2.2.1 (q2.2.2.2.1 x0 6) 1)), .inl x1] q2.2).bind fun q6 => if (q6.1 : Int) = 0 then (if (q6.2.1 x0).1 = 10 then if (q6.2.1 x0).1 = 10 then if ((q6.2.1 (q6.2.2.2.1 x0 3)).1 : Int) = 6 then (G 81 [.inr (.inr (q6.2.2.2.1 x0 3)), .inr (.inr (q6.2.2.2.1 x0 6)), .inl x1, .inl x2] q6.2).bind fun q7 => some (q7.1, q7.2) else none else none else none) else (some ((-4), q6.2)) else none else none else none) else (if x3 = 1 then (if ((q2.2.1 q2.1).1 : Int) = 4 then (G 41 [.inr (.inr q2.1), .inl x2] q2.2).bind fun q5 => some (q5.1, q5.2) else none) else (if x3 = 2 then (if ((q2.2.1 q2.1).1 : Int) = 4 then (G 38 [.inr (.inr q2.1), .inl x2] q2.2).bind fun q4 => if (q4.1 : Int) = 0 then (some (0, q4.2)) else (some (1, q4.2)) else none) else (if x3 = 3 then (if ((q2.2.1 q2.1).1 : Int) = 4 then (G 39 [.inr (.inr q2.1), .inl x2] q2.2).bind fun q3 => if (q3.1 : Int) = 0 then (some (0, q3.2)) else (some (1, q3.2)) else none) else (some ((-1), q2.2))))) else none else none) else none else none else none) (zG d) (zi_run zt_107 (zG d) 19999)) := (zG_eq zt_107 rfl rfl rfl).trans ze_107_0
-- FoldedRows.to(II)I
set_option maxRecDepth 20000 in
theorem ze_108_0 {G : Nat → List zV → zM → zR} {K : Nat → zL → List zV → zM → zR} {x0 x1 x2 : Int} {σ : zM} : zi_fr zt_108 G K 600 0 [some (.inr (.inr x0)), some (.inl x1), some (.inl x2), none] [] σ = (if (σ.1 x0).1 = 10 then if (σ.1 x0).1 = 10 then if ((σ.1 (σ.2.2.1 x0 3)).1 : Int) = 6 then (G 82 [.inr (.inr (σ.2.2.1 x0 3)), .inr (.inr (σ.2.2.1 x0 6)), .inl x1] σ).bind fun q1 => if (q1.1 : Int) < 0 then (some ((-1), q1.2)) else (if (x2 : Int) < 0 then (some ((-1), q1.2)) else (if (q1.2.1 x0).1 = 10 then if ((q1.2.1 (q1.2.2.2.1 x0 3)).1 : Int) = 6 then (G 77 [.inr (.inr (q1.2.2.2.1 x0 3)), .inl q1.1] q1.2).bind fun q2 => if (q2.2.1 x0).1 = 10 then if (q2.2.1 x0).1 = 10 then if ((q2.2.1 (q2.2.2.2.1 x0 3)).1 : Int) = 6 then (G 80 [.inr (.inr (q2.2.2.2.1 x0 3)), .inr (.inr (q2.2.2.2.1 x0 6)), .inl q1.1] q2.2).bind fun q3 => if ((q3.2.1 q2.1).1 : Int) = 4 then (G 46 [.inr (.inr q2.1), .inl (zi_w (x1 - q3.1)), .inl x2] q3.2).bind fun q4 => some (q4.1, q4.2) else none else none else none else none else none else none)) else none else none else none) := rfl
theorem zm_108 {d : Nat} {x0 x1 x2 : Int} {σ : zM} : zG (d + 1) 108 [.inr (.inr x0), .inl x1, .inl x2] σ = ((fun (G : Nat → List zV → zM → zR) (K : Nat → zL → List zV → zM → zR) => if (σ.1 x0).1 = 10 then if (σ.1 x0).1 = 10 then if ((σ.1 (σ.2.2.1 x0 3)).1 : Int) = 6 then (G 82 [.inr (.inr (σ.2.2.1 x0 3)), .inr (.inr (σ.2.2.1 x0 6)), .inl x1] σ).bind fun q1 => if (q1.1 : Int) < 0 then (some ((-1), q1.2)) else (if (x2 : Int) < 0 then (some ((-1), q1.2)) else (if (q1.2.1 x0).1 = 10 then if ((q1.2.1 (q1.2.2.2.1 x0 3)).1 : Int) = 6 then (G 77 [.inr (.inr (q1.2.2.2.1 x0 3)), .inl q1.1] q1.2).bind fun q2 => if (q2.2.1 x0).1 = 10 then if (q2.2.1 x0).1 = 10 then if ((q2.2.1 (q2.2.2.2.1 x0 3)).1 : Int) = 6 then (G 80 [.inr (.inr (q2.2.2.2.1 x0 3)), .inr (.inr (q2.2.2.2.1 x0 6)), .inl q1.1] q2.2).bind fun q3 => if ((q3.2.1 q2.1).1 : Int) = 4 then (G 46 [.inr (.inr q2.1), .inl (zi_w (x1 - q3.1)), .inl x2] q3.2).bind fun q4 => some (q4.1, q4.2) else none else none else none else none else none else none)) else none else none else none) (zG d) (zi_run zt_108 (zG d) 19999)) := (zG_eq zt_108 rfl rfl rfl).trans ze_108_0
-- FoldedRows.fold(II)I
set_option maxRecDepth 20000 in
theorem ze_109_0 {G : Nat → List zV → zM → zR} {K : Nat → zL → List zV → zM → zR} {x0 x1 x2 : Int} {σ : zM} : zi_fr zt_109 G K 600 0 [some (.inr (.inr x0)), some (.inl x1), some (.inl x2), none] [] σ = (if (σ.1 x0).1 = 10 then if (σ.1 (σ.2.2.1 x0 6)).1 = 1 then if ((σ.1 (σ.2.2.1 (σ.2.2.1 x0 6) 1)).1 : Int) = 0 then (G 1 [.inr (.inr (σ.2.2.1 (σ.2.2.1 x0 6) 1)), .inl x1] σ).bind fun q1 => if (q1.1 : Int) = 0 then (some ((-1), q1.2)) else (if x2 = 0 then (if ((q1.2.1 (σ.2.2.1 (σ.2.2.1 x0 6) 1)).1 : Int) = 0 then (G 2 [.inr (.inr (σ.2.2.1 (σ.2.2.1 x0 6) 1)), .inl x1] q1.2).bind fun q5 => some (q5.1, q5.2) else none) else (if x2 = 1 then (if ((q1.2.1 (σ.2.2.1 (σ.2.2.1 x0 6) 1)).1 : Int) = 0 then (G 3 [.inr (.inr (σ.2.2.1 (σ.2.2.1 x0 6) 1)), .inl x1] q1.2).bind fun q4 => some (q4.1, q4.2) else none) else (if x2 = 2 then (if ((q1.2.1 (σ.2.2.1 (σ.2.2.1 x0 6) 1)).1 : Int) = 0 then (G 4 [.inr (.inr (σ.2.2.1 (σ.2.2.1 x0 6) 1)), .inl x1] q1.2).bind fun q3 => if (q3.1 : Int) = 0 then (some (0, q3.2)) else (some (1, q3.2)) else none) else (if x2 = 3 then (if ((q1.2.1 (σ.2.2.1 (σ.2.2.1 x0 6) 1)).1 : Int) = 0 then (G 7 [.inr (.inr (σ.2.2.1 (σ.2.2.1 x0 6) 1)), .inl x1] q1.2).bind fun q2 => some (q2.1, q2.2) else none) else (some ((-1), q1.2)))))) else none else none else none) := rfl
theorem zm_109 {d : Nat} {x0 x1 x2 : Int} {σ : zM} : zG (d + 1) 109 [.inr (.inr x0), .inl x1, .inl x2] σ = ((fun (G : Nat → List zV → zM → zR) (K : Nat → zL → List zV → zM → zR) => if (σ.1 x0).1 = 10 then if (σ.1 (σ.2.2.1 x0 6)).1 = 1 then if ((σ.1 (σ.2.2.1 (σ.2.2.1 x0 6) 1)).1 : Int) = 0 then (G 1 [.inr (.inr (σ.2.2.1 (σ.2.2.1 x0 6) 1)), .inl x1] σ).bind fun q1 => if (q1.1 : Int) = 0 then (some ((-1), q1.2)) else (if x2 = 0 then (if ((q1.2.1 (σ.2.2.1 (σ.2.2.1 x0 6) 1)).1 : Int) = 0 then (G 2 [.inr (.inr (σ.2.2.1 (σ.2.2.1 x0 6) 1)), .inl x1] q1.2).bind fun q5 => some (q5.1, q5.2) else none) else (if x2 = 1 then (if ((q1.2.1 (σ.2.2.1 (σ.2.2.1 x0 6) 1)).1 : Int) = 0 then (G 3 [.inr (.inr (σ.2.2.1 (σ.2.2.1 x0 6) 1)), .inl x1] q1.2).bind fun q4 => some (q4.1, q4.2) else none) else (if x2 = 2 then (if ((q1.2.1 (σ.2.2.1 (σ.2.2.1 x0 6) 1)).1 : Int) = 0 then (G 4 [.inr (.inr (σ.2.2.1 (σ.2.2.1 x0 6) 1)), .inl x1] q1.2).bind fun q3 => if (q3.1 : Int) = 0 then (some (0, q3.2)) else (some (1, q3.2)) else none) else (if x2 = 3 then (if ((q1.2.1 (σ.2.2.1 (σ.2.2.1 x0 6) 1)).1 : Int) = 0 then (G 7 [.inr (.inr (σ.2.2.1 (σ.2.2.1 x0 6) 1)), .inl x1] q1.2).bind fun q2 => some (q2.1, q2.2) else none) else (some ((-1), q1.2)))))) else none else none else none) (zG d) (zi_run zt_109 (zG d) 19999)) := (zG_eq zt_109 rfl rfl rfl).trans ze_109_0
-- FoldedRows.caret(I)I
set_option maxRecDepth 20000 in
theorem ze_110_0 {G : Nat → List zV → zM → zR} {K : Nat → zL → List zV → zM → zR} {x0 x1 : Int} {σ : zM} : zi_fr zt_110 G K 600 0 [some (.inr (.inr x0)), some (.inl x1)] [] σ = (if x1 = 0 then (if (σ.1 x0).1 = 10 then if (σ.1 (σ.2.2.1 x0 6)).1 = 1 then some ((σ.2.1 (σ.2.2.1 x0 6) 2), σ) else none else none) else (if x1 = 1 then (if (σ.1 x0).1 = 10 then if (σ.1 (σ.2.2.1 x0 6)).1 = 1 then some ((σ.2.1 (σ.2.2.1 x0 6) 3), σ) else none else none) else (if x1 = 2 then (if (σ.1 x0).1 = 10 then some ((σ.2.1 x0 8), σ) else none) else (if x1 = 3 then (if ((σ.1 x0).1 : Int) = 10 then (G 129 [.inr (.inr x0)] σ).bind fun q2 => some (q2.1, q2.2) else none) else (if x1 = 4 then (if ((σ.1 x0).1 : Int) = 10 then (G 130 [.inr (.inr x0)] σ).bind fun q1 => some (q1.1, q1.2) else none) else (some ((-1), σ))))))) := rfl
theorem zm_110 {d : Nat} {x0 x1 : Int} {σ : zM} : zG (d + 1) 110 [.inr (.inr x0), .inl x1] σ = ((fun (G : Nat → List zV → zM → zR) (K : Nat → zL → List zV → zM → zR) => if x1 = 0 then (if (σ.1 x0).1 = 10 then if (σ.1 (σ.2.2.1 x0 6)).1 = 1 then some ((σ.2.1 (σ.2.2.1 x0 6) 2), σ) else none else none) else (if x1 = 1 then (if (σ.1 x0).1 = 10 then if (σ.1 (σ.2.2.1 x0 6)).1 = 1 then some ((σ.2.1 (σ.2.2.1 x0 6) 3), σ) else none else none) else (if x1 = 2 then (if (σ.1 x0).1 = 10 then some ((σ.2.1 x0 8), σ) else none) else (if x1 = 3 then (if ((σ.1 x0).1 : Int) = 10 then (G 129 [.inr (.inr x0)] σ).bind fun q2 => some (q2.1, q2.2) else none) else (if x1 = 4 then (if ((σ.1 x0).1 : Int) = 10 then (G 130 [.inr (.inr x0)] σ).bind fun q1 => some (q1.1, q1.2) else none) else (some ((-1), σ))))))) (zG d) (zi_run zt_110 (zG d) 19999)) := (zG_eq zt_110 rfl rfl rfl).trans ze_110_0
-- FoldedRows.step(I)I
set_option maxRecDepth 20000 in
theorem ze_111_0 {G : Nat → List zV → zM → zR} {K : Nat → zL → List zV → zM → zR} {x0 x1 : Int} {σ : zM} : zi_fr zt_111 G K 600 0 [some (.inr (.inr x0)), some (.inl x1), none, none, none] [] σ = (if (x1 : Int) = 0 then (if (σ.1 x0).1 = 10 then if (σ.1 x0).1 = 10 then if (σ.1 (σ.2.2.1 x0 6)).1 = 1 then if ((σ.1 (σ.2.2.1 x0 3)).1 : Int) = 6 then (G 77 [.inr (.inr (σ.2.2.1 x0 3)), .inl (σ.2.1 (σ.2.2.1 x0 6) 2)] σ).bind fun q1 => if (x1 : Int) = 0 then (if (q1.2.1 x0).1 = 10 then if (q1.2.1 (q1.2.2.2.1 x0 6)).1 = 1 then if ((q1.2.1 q1.1).1 : Int) = 4 then (G 49 [.inr (.inr q1.1), .inl (q1.2.2.1 (q1.2.2.2.1 x0 6) 3)] q1.2).bind fun q3 => K 55 [some (.inr (.inr x0)), some (.inl x1), none, none, none] [.inl q3.1] q3.2 else none else none else none) else (if (q1.2.1 x0).1 = 10 then if (q1.2.1 (q1.2.2.2.1 x0 6)).1 = 1 then if ((q1.2.1 q1.1).1 : Int) = 4 then (G 48 [.inr (.inr q1.1), .inl (q1.2.2.1 (q1.2.2.2.1 x0 6) 3)] q1.2).bind fun q2 => K 55 [some (.inr (.inr x0)), some (.inl x1), none, none, none] [.inl q2.1] q2.2 else none else none else none) else none else none else none else none) else (if (x1 : Int) = 1 then (if (σ.1 x0).1 = 10 then if (σ.1 x0).1 = 10 then if (σ.1 (σ.2.2.1 x0 6)).1 = 1 then if ((σ.1 (σ.2.2.1 x0 3)).1 : Int) = 6 then (G 77 [.inr (.inr (σ.2.2.1 x0 3)), .inl (σ.2.1 (σ.2.2.1 x0 6) 2)] σ).bind fun q4 => if (x1 : Int) = 0 then (if (q4.2.1 x0).1 = 10 then if (q4.2.1 (q4.2.2.2.1 x0 6)).1 = 1 then if ((q4.2.1 q4.1).1 : Int) = 4 then (G 49 [.inr (.inr q4.1), .inl (q4.2.2.1 (q4.2.2.2.1 x0 6) 3)] q4.2).bind fun q6 => K 55 [some (.inr (.inr x0)), some (.inl x1), none, none, none] [.inl q6.1] q6.2 else none else none else none) else (if (q4.2.1 x0).1 = 10 then if (q4.2.1 (q4.2.2.2.1 x0 6)).1 = 1 then if ((q4.2.1 q4.1).1 : Int) = 4 then (G 48 [.inr (.inr q4.1), .inl (q4.2.2.1 (q4.2.2.2.1 x0 6) 3)] q4.2).bind fun q5 => K 55 [some (.inr (.inr x0)), some (.inl x1), none, none, none] [.inl q5.1] q5.2 else none else none else none) else none else none else none else none) else (some ((-1), σ)))) := rfl
theorem zm_111 {d : Nat} {x0 x1 : Int} {σ : zM} : zG (d + 1) 111 [.inr (.inr x0), .inl x1] σ = ((fun (G : Nat → List zV → zM → zR) (K : Nat → zL → List zV → zM → zR) => if (x1 : Int) = 0 then (if (σ.1 x0).1 = 10 then if (σ.1 x0).1 = 10 then if (σ.1 (σ.2.2.1 x0 6)).1 = 1 then if ((σ.1 (σ.2.2.1 x0 3)).1 : Int) = 6 then (G 77 [.inr (.inr (σ.2.2.1 x0 3)), .inl (σ.2.1 (σ.2.2.1 x0 6) 2)] σ).bind fun q1 => if (x1 : Int) = 0 then (if (q1.2.1 x0).1 = 10 then if (q1.2.1 (q1.2.2.2.1 x0 6)).1 = 1 then if ((q1.2.1 q1.1).1 : Int) = 4 then (G 49 [.inr (.inr q1.1), .inl (q1.2.2.1 (q1.2.2.2.1 x0 6) 3)] q1.2).bind fun q3 => K 55 [some (.inr (.inr x0)), some (.inl x1), none, none, none] [.inl q3.1] q3.2 else none else none else none) else (if (q1.2.1 x0).1 = 10 then if (q1.2.1 (q1.2.2.2.1 x0 6)).1 = 1 then if ((q1.2.1 q1.1).1 : Int) = 4 then (G 48 [.inr (.inr q1.1), .inl (q1.2.2.1 (q1.2.2.2.1 x0 6) 3)] q1.2).bind fun q2 => K 55 [some (.inr (.inr x0)), some (.inl x1), none, none, none] [.inl q2.1] q2.2 else none else none else none) else none else none else none else none) else (if (x1 : Int) = 1 then (if (σ.1 x0).1 = 10 then if (σ.1 x0).1 = 10 then if (σ.1 (σ.2.2.1 x0 6)).1 = 1 then if ((σ.1 (σ.2.2.1 x0 3)).1 : Int) = 6 then (G 77 [.inr (.inr (σ.2.2.1 x0 3)), .inl (σ.2.1 (σ.2.2.1 x0 6) 2)] σ).bind fun q4 => if (x1 : Int) = 0 then (if (q4.2.1 x0).1 = 10 then if (q4.2.1 (q4.2.2.2.1 x0 6)).1 = 1 then if ((q4.2.1 q4.1).1 : Int) = 4 then (G 49 [.inr (.inr q4.1), .inl (q4.2.2.1 (q4.2.2.2.1 x0 6) 3)] q4.2).bind fun q6 => K 55 [some (.inr (.inr x0)), some (.inl x1), none, none, none] [.inl q6.1] q6.2 else none else none else none) else (if (q4.2.1 x0).1 = 10 then if (q4.2.1 (q4.2.2.2.1 x0 6)).1 = 1 then if ((q4.2.1 q4.1).1 : Int) = 4 then (G 48 [.inr (.inr q4.1), .inl (q4.2.2.1 (q4.2.2.2.1 x0 6) 3)] q4.2).bind fun q5 => K 55 [some (.inr (.inr x0)), some (.inl x1), none, none, none] [.inl q5.1] q5.2 else none else none else none) else none else none else none else none) else (some ((-1), σ)))) (zG d) (zi_run zt_111 (zG d) 19999)) := (zG_eq zt_111 rfl rfl rfl).trans ze_111_0
set_option maxRecDepth 20000 in
theorem ze_111_55 {G : Nat → List zV → zM → zR} {K : Nat → zL → List zV → zM → zR} {x0 x1 y0 : Int} {σ : zM} : zi_fr zt_111 G K 600 55 [some (.inr (.inr x0)), some (.inl x1), none, none, none] [.inl y0] σ = (if (y0 : Int) < 0 then (if (x1 : Int) = 0 then (if (σ.1 x0).1 = 10 then if ((σ.1 (σ.2.2.1 x0 6)).1 : Int) = 1 then (G 23 [.inr (.inr (σ.2.2.1 x0 6))] σ).bind fun q2 => K 95 [some (.inr (.inr x0)), some (.inl x1), none, none, none] [.inl q2.1] q2.2 else none else none) else (if (σ.1 x0).1 = 10 then if ((σ.1 (σ.2.2.1 x0 6)).1 : Int) = 1 then (G 24 [.inr (.inr (σ.2.2.1 x0 6))] σ).bind fun q1 => K 95 [some (.inr (.inr x0)), some (.inl x1), none, none, none] [.inl q1.1] q1.2 else none else none)) else (if (σ.1 x0).1 = 10 then if (σ.1 (σ.2.2.1 x0 6)).1 = 1 then if ((σ.1 x0).1 : Int) = 10 then (G 128 [.inr (.inr x0), .inl (σ.2.1 (σ.2.2.1 x0 6) 2), .inl y0] σ).bind fun q3 => some (y0, q3.2) else none else none else none)) := rfl
theorem zk_111_55 {G : Nat → List zV → zM → zR} {n : Nat} {x0 x1 y0 : Int} {σ : zM} : zi_run zt_111 G (n + 1) 55 [some (.inr (.inr x0)), some (.inl x1), none, none, none] [.inl y0] σ = ((fun (K : Nat → zL → List zV → zM → zR) => if (y0 : Int) < 0 then (if (x1 : Int) = 0 then (if (σ.1 x0).1 = 10 then if ((σ.1 (σ.2.2.1 x0 6)).1 : Int) = 1 then (G 23 [.inr (.inr (σ.2.2.1 x0 6))] σ).bind fun q2 => K 95 [some (.inr (.inr x0)), some (.inl x1), none, none, none] [.inl q2.1] q2.2 else none else none) else (if (σ.1 x0).1 = 10 then if ((σ.1 (σ.2.2.1 x0 6)).1 : Int) = 1 then (G 24 [.inr (.inr (σ.2.2.1 x0 6))] σ).bind fun q1 => K 95 [some (.inr (.inr x0)), some (.inl x1), none, none, none] [.inl q1.1] q1.2 else none else none)) else (if (σ.1 x0).1 = 10 then if (σ.1 (σ.2.2.1 x0 6)).1 = 1 then if ((σ.1 x0).1 : Int) = 10 then (G 128 [.inr (.inr x0), .inl (σ.2.1 (σ.2.2.1 x0 6) 2), .inl y0] σ).bind fun q3 => some (y0, q3.2) else none else none else none)) (zi_run zt_111 G n)) := zi_run_succ.trans ze_111_55
set_option maxRecDepth 20000 in
theorem ze_111_95 {G : Nat → List zV → zM → zR} {K : Nat → zL → List zV → zM → zR} {x0 x1 y0 : Int} {σ : zM} : zi_fr zt_111 G K 600 95 [some (.inr (.inr x0)), some (.inl x1), none, none, none] [.inl y0] σ = (if (y0 : Int) < 0 then (some ((-4), σ)) else (if (x1 : Int) = 0 then (if (σ.1 x0).1 = 10 then if (σ.1 (σ.2.2.1 x0 6)).1 = 1 then if ((σ.1 (σ.2.2.1 (σ.2.2.1 x0 6) 0)).1 : Int) = 5 then (G 58 [.inr (.inr (σ.2.2.1 (σ.2.2.1 x0 6) 0)), .inl y0] σ).bind fun q2 => if ((q2.2.1 x0).1 : Int) = 10 then (G 128 [.inr (.inr x0), .inl y0, .inl q2.1] q2.2).bind fun q3 => if (q3.2.1 x0).1 = 10 then if (q3.2.1 (q3.2.2.2.1 x0 6)).1 = 1 then some ((q3.2.2.1 (q3.2.2.2.1 x0 6) 3), q3.2) else none else none else none else none else none else none) else (if ((σ.1 x0).1 : Int) = 10 then (G 128 [.inr (.inr x0), .inl y0, .inl 0] σ).bind fun q1 => if (q1.2.1 x0).1 = 10 then if (q1.2.1 (q1.2.2.2.1 x0 6)).1 = 1 then some ((q1.2.2.1 (q1.2.2.2.1 x0 6) 3), q1.2) else none else none else none))) := rfl
theorem zk_111_95 {G : Nat → List zV → zM → zR} {n : Nat} {x0 x1 y0 : Int} {σ : zM} : zi_run zt_111 G (n + 1) 95 [some (.inr (.inr x0)), some (.inl x1), none, none, none] [.inl y0] σ = ((fun (K : Nat → zL → List zV → zM → zR) => if (y0 : Int) < 0 then (some ((-4), σ)) else (if (x1 : Int) = 0 then (if (σ.1 x0).1 = 10 then if (σ.1 (σ.2.2.1 x0 6)).1 = 1 then if ((σ.1 (σ.2.2.1 (σ.2.2.1 x0 6) 0)).1 : Int) = 5 then (G 58 [.inr (.inr (σ.2.2.1 (σ.2.2.1 x0 6) 0)), .inl y0] σ).bind fun q2 => if ((q2.2.1 x0).1 : Int) = 10 then (G 128 [.inr (.inr x0), .inl y0, .inl q2.1] q2.2).bind fun q3 => if (q3.2.1 x0).1 = 10 then if (q3.2.1 (q3.2.2.2.1 x0 6)).1 = 1 then some ((q3.2.2.1 (q3.2.2.2.1 x0 6) 3), q3.2) else none else none else none else none else none else none) else (if ((σ.1 x0).1 : Int) = 10 then (G 128 [.inr (.inr x0), .inl y0, .inl 0] σ).bind fun q1 => if (q1.2.1 x0).1 = 10 then if (q1.2.1 (q1.2.2.2.1 x0 6)).1 = 1 then some ((q1.2.2.1 (q1.2.2.2.1 x0 6) 3), q1.2) else none else none else none))) (zi_run zt_111 G n)) := zi_run_succ.trans ze_111_95
-- FoldedRows.down(I)I
set_option maxRecDepth 20000 in
theorem ze_112_0 {G : Nat → List zV → zM → zR} {K : Nat → zL → List zV → zM → zR} {x0 x1 : Int} {σ : zM} : zi_fr zt_112 G K 600 0 [some (.inr (.inr x0)), some (.inl x1), none, none, none, none, none] [] σ = (if ((σ.1 x0).1 : Int) = 10 then (G 129 [.inr (.inr x0)] σ).bind fun q1 => if (0 : Int) < (if 2147483647 < (zi_w64 (q1.1 + x1)) then 1 else if (zi_w64 (q1.1 + x1)) = 2147483647 then 0 else -1) then (some ((-3), q1.2)) else (if (q1.2.1 x0).1 = 10 then if (q1.2.1 x0).1 = 10 then if ((q1.2.1 (q1.2.2.2.1 x0 3)).1 : Int) = 6 then (G 79 [.inr (.inr (q1.2.2.2.1 x0 3)), .inr (.inr (q1.2.2.2.1 x0 6))] q1.2).bind fun q2 => (G 1004 [.inr (.inl (zi_w64 (q1.1 + x1))), .inr (.inl (zi_w64 (q2.1 - 1)))] q2.2).bind fun q3 => (G 1003 [.inr (.inl 0), .inr (.inl q3.1)] q3.2).bind fun q4 => if (q4.2.1 x0).1 = 10 then if (q4.2.1 x0).1 = 10 then if ((q4.2.1 (q4.2.2.2.1 x0 3)).1 : Int) = 6 then (G 82 [.inr (.inr (q4.2.2.2.1 x0 3)), .inr (.inr (q4.2.2.2.1 x0 6)), .inl (zi_w q4.1)] q4.2).bind fun q5 => if (q5.2.1 x0).1 = 10 then if ((q5.2.1 (q5.2.2.2.1 x0 3)).1 : Int) = 6 then (G 77 [.inr (.inr (q5.2.2.2.1 x0 3)), .inl q5.1] q5.2).bind fun q6 => if (q6.2.1 x0).1 = 10 then if (q6.2.1 x0).1 = 10 then if ((q6.2.1 (q6.2.2.2.1 x0 3)).1 : Int) = 6 then (G 80 [.inr (.inr (q6.2.2.2.1 x0 3)), .inr (.inr (q6.2.2.2.1 x0 6)), .inl q5.1] q6.2).bind fun q7 => if (q7.2.1 x0).1 = 10 then if ((q7.2.1 q6.1).1 : Int) = 4 then (G 46 [.inr (.inr q6.1), .inl (zi_w ((zi_w q4.1) - q7.1)), .inl (q7.2.2.1 x0 8)] q7.2).bind fun q8 => if (q8.2.1 x0).1 = 10 then if (q8.2.1 (q8.2.2.2.1 x0 6)).1 = 1 then let s9 : zM := zi_wr q8.2 (q8.2.2.2.1 x0 6) 2 q5.1; if (s9.1 x0).1 = 10 then if (s9.1 (s9.2.2.1 x0 6)).1 = 1 then let s10 : zM := zi_wr s9 (s9.2.2.1 x0 6) 3 q8.1; some ((zi_w q4.1), s10) else none else none else none else none else none else none else none else none else none else none else none else none else none else none else none else none else none) else none) := rfl
theorem zm_112 {d : Nat} {x0 x1 : Int} {σ : zM} : zG (d + 1) 112 [.inr (.inr x0), .inl x1] σ = ((fun (G : Nat → List zV → zM → zR) (K : Nat → zL → List zV → zM → zR) => if ((σ.1 x0).1 : Int) = 10 then (G 129 [.inr (.inr x0)] σ).bind fun q1 => if (0 : Int) < (if 2147483647 < (zi_w64 (q1.1 + x1)) then 1 else if (zi_w64 (q1.1 + x1)) = 2147483647 then 0 else -1) then (some ((-3), q1.2)) else (if (q1.2.1 x0).1 = 10 then if (q1.2.1 x0).1 = 10 then if ((q1.2.1 (q1.2.2.2.1 x0 3)).1 : Int) = 6 then (G 79 [.inr (.inr (q1.2.2.2.1 x0 3)), .inr (.inr (q1.2.2.2.1 x0 6))] q1.2).bind fun q2 => (G 1004 [.inr (.inl (zi_w64 (q1.1 + x1))), .inr (.inl (zi_w64 (q2.1 - 1)))] q2.2).bind fun q3 => (G 1003 [.inr (.inl 0), .inr (.inl q3.1)] q3.2).bind fun q4 => if (q4.2.1 x0).1 = 10 then if (q4.2.1 x0).1 = 10 then if ((q4.2.1 (q4.2.2.2.1 x0 3)).1 : Int) = 6 then (G 82 [.inr (.inr (q4.2.2.2.1 x0 3)), .inr (.inr (q4.2.2.2.1 x0 6)), .inl (zi_w q4.1)] q4.2).bind fun q5 => if (q5.2.1 x0).1 = 10 then if ((q5.2.1 (q5.2.2.2.1 x0 3)).1 : Int) = 6 then (G 77 [.inr (.inr (q5.2.2.2.1 x0 3)), .inl q5.1] q5.2).bind fun q6 => if (q6.2.1 x0).1 = 10 then if (q6.2.1 x0).1 = 10 then if ((q6.2.1 (q6.2.2.2.1 x0 3)).1 : Int) = 6 then (G 80 [.inr (.inr (q6.2.2.2.1 x0 3)), .inr (.inr (q6.2.2.2.1 x0 6)), .inl q5.1] q6.2).bind fun q7 => if (q7.2.1 x0).1 = 10 then if ((q7.2.1 q6.1).1 : Int) = 4 then (G 46 [.inr (.inr q6.1), .inl (zi_w ((zi_w q4.1) - q7.1)), .inl (q7.2.2.1 x0 8)] q7.2).bind fun q8 => if (q8.2.1 x0).1 = 10 then if (q8.2.1 (q8.2.2.2.1 x0 6)).1 = 1 then let s9 : zM := zi_wr q8.2 (q8.2.2.2.1 x0 6) 2 q5.1; if (s9.1 x0).1 = 10 then if (s9.1 (s9.2.2.1 x0 6)).1 = 1 then let s10 : zM := zi_wr s9 (s9.2.2.1 x0 6) 3 q8.1; some ((zi_w q4.1), s10) else none else none else none else none else none else none else none else none else none else none else none else none else none else none else none else none else none) else none) (zG d) (zi_run zt_112 (zG d) 19999)) := (zG_eq zt_112 rfl rfl rfl).trans ze_112_0
-- FoldedRows.edge(I)I
set_option maxRecDepth 20000 in
theorem ze_113_0 {G : Nat → List zV → zM → zR} {K : Nat → zL → List zV → zM → zR} {x0 x1 : Int} {σ : zM} : zi_fr zt_113 G K 600 0 [some (.inr (.inr x0)), some (.inl x1), none, none, none] [] σ = (if (x1 : Int) = 0 then (K 11 [some (.inr (.inr x0)), some (.inl x1), none, none, none] [] σ) else (if (x1 : Int) = 1 then (K 11 [some (.inr (.inr x0)), some (.inl x1), none, none, none] [] σ) else (some ((-1), σ)))) := rfl
theorem zm_113 {d : Nat} {x0 x1 : Int} {σ : zM} : zG (d + 1) 113 [.inr (.inr x0), .inl x1] σ = ((fun (G : Nat → List zV → zM → zR) (K : Nat → zL → List zV → zM → zR) => if (x1 : Int) = 0 then (K 11 [some (.inr (.inr x0)), some (.inl x1), none, none, none] [] σ) else (if (x1 : Int) = 1 then (K 11 [some (.inr (.inr x0)), some (.inl x1), none, none, none] [] σ) else (some ((-1), σ)))) (zG d) (zi_run zt_113 (zG d) 19999)) := (zG_eq zt_113 rfl rfl rfl).trans ze_113_0
set_option maxRecDepth 20000 in
theorem ze_113_11 {G : Nat → List zV → zM → zR} {K : Nat → zL → List zV → zM → zR} {x0 x1 : Int} {σ : zM} : zi_fr zt_113 G K 600 11 [some (.inr (.inr x0)), some (.inl x1), none, none, none] [] σ = (if (σ.1 x0).1 = 10 then if (σ.1 x0).1 = 10 then if (σ.1 (σ.2.2.1 x0 6)).1 = 1 then if ((σ.1 (σ.2.2.1 x0 3)).1 : Int) = 6 then (G 77 [.inr (.inr (σ.2.2.1 x0 3)), .inl (σ.2.1 (σ.2.2.1 x0 6) 2)] σ).bind fun q1 => if (q1.2.1 x0).1 = 10 then if (q1.2.1 (q1.2.2.2.1 x0 6)).1 = 1 then if ((q1.2.1 q1.1).1 : Int) = 4 then (G 40 [.inr (.inr q1.1), .inl (q1.2.2.1 (q1.2.2.2.1 x0 6) 3)] q1.2).bind fun q2 => if (x1 : Int) = 0 then (if ((q2.2.1 q1.1).1 : Int) = 4 then (G 42 [.inr (.inr q1.1), .inl q2.1] q2.2).bind fun q5 => if (q5.2.1 x0).1 = 10 then if (q5.2.1 (q5.2.2.2.1 x0 6)).1 = 1 then if ((q5.2.1 x0).1 : Int) = 10 then (G 128 [.inr (.inr x0), .inl (q5.2.2.1 (q5.2.2.2.1 x0 6) 2), .inl q5.1] q5.2).bind fun q6 => some (q5.1, q6.2) else none else none else none else none) else (if ((q2.2.1 q1.1).1 : Int) = 4 then (G 46 [.inr (.inr q1.1), .inl q2.1, .inl 2147483647] q2.2).bind fun q3 => if (q3.2.1 x0).1 = 10 then if (q3.2.1 (q3.2.2.2.1 x0 6)).1 = 1 then if ((q3.2.1 x0).1 : Int) = 10 then (G 128 [.inr (.inr x0), .inl (q3.2.2.1 (q3.2.2.2.1 x0 6) 2), .inl q3.1] q3.2).bind fun q4 => some (q3.1, q4.2) else none else none else none else none) else none else none else none else none else none else none else none) := rfl
theorem zk_113_11 {G : Nat → List zV → zM → zR} {n : Nat} {x0 x1 : Int} {σ : zM} : zi_run zt_113 G (n + 1) 11 [some (.inr (.inr x0)), some (.inl x1), none, none, none] [] σ = ((fun (K : Nat → zL → List zV → zM → zR) => if (σ.1 x0).1 = 10 then if (σ.1 x0).1 = 10 then if (σ.1 (σ.2.2.1 x0 6)).1 = 1 then if ((σ.1 (σ.2.2.1 x0 3)).1 : Int) = 6 then (G 77 [.inr (.inr (σ.2.2.1 x0 3)), .inl (σ.2.1 (σ.2.2.1 x0 6) 2)] σ).bind fun q1 => if (q1.2.1 x0).1 = 10 then if (q1.2.1 (q1.2.2.2.1 x0 6)).1 = 1 then if ((q1.2.1 q1.1).1 : Int) = 4 then (G 40 [.inr (.inr q1.1), .inl (q1.2.2.1 (q1.2.2.2.1 x0 6) 3)] q1.2).bind fun q2 => if (x1 : Int) = 0 then (if ((q2.2.1 q1.1).1 : Int) = 4 then (G 42 [.inr (.inr q1.1), .inl q2.1] q2.2).bind fun q5 => if (q5.2.1 x0).1 = 10 then if (q5.2.1 (q5.2.2.2.1 x0 6)).1 = 1 then if ((q5.2.1 x0).1 : Int) = 10 then (G 128 [.inr (.inr x0), .inl (q5.2.2.1 (q5.2.2.2.1 x0 6) 2), .inl q5.1] q5.2).bind fun q6 => some (q5.1, q6.2) else none else none else none else none) else (if ((q2.2.1 q1.1).1 : Int) = 4 then (G 46 [.inr (.inr q1.1), .inl q2.1, .inl 2147483647] q2.2).bind fun q3 => if (q3.2.1 x0).1 = 10 then if (q3.2.1 (q3.2.2.2.1 x0 6)).1 = 1 then if ((q3.2.1 x0).1 : Int) = 10 then (G 128 [.inr (.inr x0), .inl (q3.2.2.1 (q3.2.2.2.1 x0 6) 2), .inl q3.1] q3.2).bind fun q4 => some (q3.1, q4.2) else none else none else none else none) else none else none else none else none else none else none else none) (zi_run zt_113 G n)) := zi_run_succ.trans ze_113_11
-- FoldedRows.type(I)I
set_option maxRecDepth 20000 in
theorem ze_114_0 {G : Nat → List zV → zM → zR} {K : Nat → zL → List zV → zM → zR} {x0 x1 : Int} {σ : zM} : zi_fr zt_114 G K 600 0 [some (.inr (.inr x0)), some (.inl x1), none] [] σ = ((G 136 [.inl x1] σ).bind fun q1 => if (q1.1 : Int) = 0 then (some ((-1), q1.2)) else (if (q1.2.1 x0).1 = 10 then if (q1.2.1 (q1.2.2.2.1 x0 6)).1 = 1 then if (q1.2.1 x0).1 = 10 then if (q1.2.1 (q1.2.2.2.1 x0 6)).1 = 1 then if ((q1.2.1 (q1.2.2.2.1 (q1.2.2.2.1 x0 6) 0)).1 : Int) = 5 then (G 58 [.inr (.inr (q1.2.2.2.1 (q1.2.2.2.1 x0 6) 0)), .inl (q1.2.2.1 (q1.2.2.2.1 x0 6) 2)] q1.2).bind fun q2 => if (q2.1 : Int) < 40 then (if (q2.2.1 x0).1 = 10 then if (q2.2.1 x0).1 = 10 then if ((q2.2.1 (q2.2.2.2.1 x0 2)).1 : Int) = 2 then (G 27 [.inr (.inr (q2.2.2.2.1 x0 2)), .inr (.inr (q2.2.2.2.1 x0 6))] q2.2).bind fun q3 => if (q3.2.1 x0).1 = 10 then if (q3.2.1 (q3.2.2.2.1 x0 6)).1 = 1 then if (q3.2.1 x0).1 = 10 then if (q3.2.1 (q3.2.2.2.1 x0 6)).1 = 1 then if ((q3.2.1 (q3.2.2.2.1 (q3.2.2.2.1 x0 6) 0)).1 : Int) = 5 then (G 64 [.inr (.inr (q3.2.2.2.1 (q3.2.2.2.1 x0 6) 0)), .inl (q1.2.2.1 (q1.2.2.2.1 x0 6) 2), .inl (q3.2.2.1 (q3.2.2.2.1 x0 6) 3), .inl x1] q3.2).bind fun q4 => if (q4.2.1 x0).1 = 10 then if (q4.2.1 (q4.2.2.2.1 x0 6)).1 = 1 then if (q4.2.1 (q4.2.2.2.1 x0 6)).1 = 1 then let s5 : zM := zi_wr q4.2 (q4.2.2.2.1 x0 6) 3 (zi_w ((q4.2.2.1 (q4.2.2.2.1 x0 6) 3) + 1)); if ((s5.1 x0).1 : Int) = 10 then (G 126 [.inr (.inr x0)] s5).bind fun q6 => if (q6.2.1 x0).1 = 10 then if (q6.2.1 (q6.2.2.2.1 x0 6)).1 = 1 then if ((q6.2.1 (q6.2.2.2.1 (q6.2.2.2.1 x0 6) 0)).1 : Int) = 5 then (G 58 [.inr (.inr (q6.2.2.2.1 (q6.2.2.2.1 x0 6) 0)), .inl (q1.2.2.1 (q1.2.2.2.1 x0 6) 2)] q6.2).bind fun q7 => some (q7.1, q7.2) else none else none else none else none else none else none else none else none else none else none else none else none else none else none else none) else (some ((-3), q2.2)) else none else none else none else none else none)) := rfl
theorem zm_114 {d : Nat} {x0 x1 : Int} {σ : zM} : zG (d + 1) 114 [.inr (.inr x0), .inl x1] σ = ((fun (G : Nat → List zV → zM → zR) (K : Nat → zL → List zV → zM → zR) => (G 136 [.inl x1] σ).bind fun q1 => if (q1.1 : Int) = 0 then (some ((-1), q1.2)) else (if (q1.2.1 x0).1 = 10 then if (q1.2.1 (q1.2.2.2.1 x0 6)).1 = 1 then if (q1.2.1 x0).1 = 10 then if (q1.2.1 (q1.2.2.2.1 x0 6)).1 = 1 then if ((q1.2.1 (q1.2.2.2.1 (q1.2.2.2.1 x0 6) 0)).1 : Int) = 5 then (G 58 [.inr (.inr (q1.2.2.2.1 (q1.2.2.2.1 x0 6) 0)), .inl (q1.2.2.1 (q1.2.2.2.1 x0 6) 2)] q1.2).bind fun q2 => if (q2.1 : Int) < 40 then (if (q2.2.1 x0).1 = 10 then if (q2.2.1 x0).1 = 10 then if ((q2.2.1 (q2.2.2.2.1 x0 2)).1 : Int) = 2 then (G 27 [.inr (.inr (q2.2.2.2.1 x0 2)), .inr (.inr (q2.2.2.2.1 x0 6))] q2.2).bind fun q3 => if (q3.2.1 x0).1 = 10 then if (q3.2.1 (q3.2.2.2.1 x0 6)).1 = 1 then if (q3.2.1 x0).1 = 10 then if (q3.2.1 (q3.2.2.2.1 x0 6)).1 = 1 then if ((q3.2.1 (q3.2.2.2.1 (q3.2.2.2.1 x0 6) 0)).1 : Int) = 5 then (G 64 [.inr (.inr (q3.2.2.2.1 (q3.2.2.2.1 x0 6) 0)), .inl (q1.2.2.1 (q1.2.2.2.1 x0 6) 2), .inl (q3.2.2.1 (q3.2.2.2.1 x0 6) 3), .inl x1] q3.2).bind fun q4 => if (q4.2.1 x0).1 = 10 then if (q4.2.1 (q4.2.2.2.1 x0 6)).1 = 1 then if (q4.2.1 (q4.2.2.2.1 x0 6)).1 = 1 then let s5 : zM := zi_wr q4.2 (q4.2.2.2.1 x0 6) 3 (zi_w ((q4.2.2.1 (q4.2.2.2.1 x0 6) 3) + 1)); if ((s5.1 x0).1 : Int) = 10 then (G 126 [.inr (.inr x0)] s5).bind fun q6 => if (q6.2.1 x0).1 = 10 then if (q6.2.1 (q6.2.2.2.1 x0 6)).1 = 1 then if ((q6.2.1 (q6.2.2.2.1 (q6.2.2.2.1 x0 6) 0)).1 : Int) = 5 then (G 58 [.inr (.inr (q6.2.2.2.1 (q6.2.2.2.1 x0 6) 0)), .inl (q1.2.2.1 (q1.2.2.2.1 x0 6) 2)] q6.2).bind fun q7 => some (q7.1, q7.2) else none else none else none else none else none else none else none else none else none else none else none else none else none else none else none) else (some ((-3), q2.2)) else none else none else none else none else none)) (zG d) (zi_run zt_114 (zG d) 19999)) := (zG_eq zt_114 rfl rfl rfl).trans ze_114_0
-- FoldedRows.erase()I
set_option maxRecDepth 20000 in
theorem ze_115_0 {G : Nat → List zV → zM → zR} {K : Nat → zL → List zV → zM → zR} {x0 : Int} {σ : zM} : zi_fr zt_115 G K 600 0 [some (.inr (.inr x0)), none, none, none] [] σ = (if (σ.1 x0).1 = 10 then if (σ.1 (σ.2.2.1 x0 6)).1 = 1 then if ((σ.2.1 (σ.2.2.1 x0 6) 3) : Int) = 0 then (if ((σ.1 x0).1 : Int) = 10 then (G 124 [.inr (.inr x0)] σ).bind fun q8 => some (q8.1, q8.2) else none) else (if (σ.1 x0).1 = 10 then if (σ.1 (σ.2.2.1 x0 6)).1 = 1 then if (σ.1 x0).1 = 10 then if (σ.1 (σ.2.2.1 x0 6)).1 = 1 then if (σ.1 x0).1 = 10 then if ((σ.1 (σ.2.2.1 x0 3)).1 : Int) = 6 then (G 77 [.inr (.inr (σ.2.2.1 x0 3)), .inl (σ.2.1 (σ.2.2.1 x0 6) 2)] σ).bind fun q1 => if ((q1.2.1 q1.1).1 : Int) = 4 then (G 49 [.inr (.inr q1.1), .inl (σ.2.1 (σ.2.2.1 x0 6) 3)] q1.2).bind fun q2 => (G 1001 [.inl 0, .inl q2.1] q2.2).bind fun q3 => if (q3.2.1 x0).1 = 10 then if (q3.2.1 x0).1 = 10 then if ((q3.2.1 (q3.2.2.2.1 x0 2)).1 : Int) = 2 then (G 27 [.inr (.inr (q3.2.2.2.1 x0 2)), .inr (.inr (q3.2.2.2.1 x0 6))] q3.2).bind fun q4 => if (q4.2.1 x0).1 = 10 then if (q4.2.1 (q4.2.2.2.1 x0 6)).1 = 1 then if ((q4.2.1 (q4.2.2.2.1 (q4.2.2.2.1 x0 6) 0)).1 : Int) = 5 then (G 65 [.inr (.inr (q4.2.2.2.1 (q4.2.2.2.1 x0 6) 0)), .inl (σ.2.1 (σ.2.2.1 x0 6) 2), .inl q3.1, .inl (σ.2.1 (σ.2.2.1 x0 6) 3)] q4.2).bind fun q5 => if (q5.2.1 x0).1 = 10 then if (q5.2.1 (q5.2.2.2.1 x0 6)).1 = 1 then let s6 : zM := zi_wr q5.2 (q5.2.2.2.1 x0 6) 3 q3.1; if ((s6.1 x0).1 : Int) = 10 then (G 126 [.inr (.inr x0)] s6).bind fun q7 => some ((zi_w ((σ.2.1 (σ.2.2.1 x0 6) 3) - q3.1)), q7.2) else none else none else none else none else none else none else none else none else none else none else none else none else none else none else none else none) else none else none) := rfl
theorem zm_115 {d : Nat} {x0 : Int} {σ : zM} : zG (d + 1) 115 [.inr (.inr x0)] σ = ((fun (G : Nat → List zV → zM → zR) (K : Nat → zL → List zV → zM → zR) => if (σ.1 x0).1 = 10 then if (σ.1 (σ.2.2.1 x0 6)).1 = 1 then if ((σ.2.1 (σ.2.2.1 x0 6) 3) : Int) = 0 then (if ((σ.1 x0).1 : Int) = 10 then (G 124 [.inr (.inr x0)] σ).bind fun q8 => some (q8.1, q8.2) else none) else (if (σ.1 x0).1 = 10 then if (σ.1 (σ.2.2.1 x0 6)).1 = 1 then if (σ.1 x0).1 = 10 then if (σ.1 (σ.2.2.1 x0 6)).1 = 1 then if (σ.1 x0).1 = 10 then if ((σ.1 (σ.2.2.1 x0 3)).1 : Int) = 6 then (G 77 [.inr (.inr (σ.2.2.1 x0 3)), .inl (σ.2.1 (σ.2.2.1 x0 6) 2)] σ).bind fun q1 => if ((q1.2.1 q1.1).1 : Int) = 4 then (G 49 [.inr (.inr q1.1), .inl (σ.2.1 (σ.2.2.1 x0 6) 3)] q1.2).bind fun q2 => (G 1001 [.inl 0, .inl q2.1] q2.2).bind fun q3 => if (q3.2.1 x0).1 = 10 then if (q3.2.1 x0).1 = 10 then if ((q3.2.1 (q3.2.2.2.1 x0 2)).1 : Int) = 2 then (G 27 [.inr (.inr (q3.2.2.2.1 x0 2)), .inr (.inr (q3.2.2.2.1 x0 6))] q3.2).bind fun q4 => if (q4.2.1 x0).1 = 10 then if (q4.2.1 (q4.2.2.2.1 x0 6)).1 = 1 then if ((q4.2.1 (q4.2.2.2.1 (q4.2.2.2.1 x0 6) 0)).1 : Int) = 5 then (G 65 [.inr (.inr (q4.2.2.2.1 (q4.2.2.2.1 x0 6) 0)), .inl (σ.2.1 (σ.2.2.1 x0 6) 2), .inl q3.1, .inl (σ.2.1 (σ.2.2.1 x0 6) 3)] q4.2).bind fun q5 => if (q5.2.1 x0).1 = 10 then if (q5.2.1 (q5.2.2.2.1 x0 6)).1 = 1 then let s6 : zM := zi_wr q5.2 (q5.2.2.2.1 x0 6) 3 q3.1; if ((s6.1 x0).1 : Int) = 10 then (G 126 [.inr (.inr x0)] s6).bind fun q7 => some ((zi_w ((σ.2.1 (σ.2.2.1 x0 6) 3) - q3.1)), q7.2) else none else none else none else none else none else none else none else none else none else none else none else none else none else none else none else none) else none else none) (zG d) (zi_run zt_115 (zG d) 19999)) := (zG_eq zt_115 rfl rfl rfl).trans ze_115_0
-- FoldedRows.split()I
set_option maxRecDepth 20000 in
theorem ze_116_0 {G : Nat → List zV → zM → zR} {K : Nat → zL → List zV → zM → zR} {x0 : Int} {σ : zM} : zi_fr zt_116 G K 600 0 [some (.inr (.inr x0)), none] [] σ = (if (σ.1 x0).1 = 10 then if (σ.1 (σ.2.2.1 x0 6)).1 = 1 then if (σ.1 x0).1 = 10 then if (σ.1 (σ.2.2.1 x0 6)).1 = 1 then if ((σ.1 (σ.2.2.1 (σ.2.2.1 x0 6) 1)).1 : Int) = 0 then (G 9 [.inr (.inr (σ.2.2.1 (σ.2.2.1 x0 6) 1)), .inl (σ.2.1 (σ.2.2.1 x0 6) 2)] σ).bind fun q1 => if (q1.1 : Int) = 0 then (if (q1.2.1 x0).1 = 10 then if (q1.2.1 (q1.2.2.2.1 x0 6)).1 = 1 then if (q1.2.1 (q1.2.2.2.1 (q1.2.2.2.1 x0 6) 0)).1 = 5 then if ((q1.2.2.1 (q1.2.2.2.1 (q1.2.2.2.1 x0 6) 0) 0) : Int) < 12 then (if (q1.2.1 x0).1 = 10 then if (q1.2.1 x0).1 = 10 then if ((q1.2.1 (q1.2.2.2.1 x0 2)).1 : Int) = 2 then (G 27 [.inr (.inr (q1.2.2.2.1 x0 2)), .inr (.inr (q1.2.2.2.1 x0 6))] q1.2).bind fun q2 => if (q2.2.1 x0).1 = 10 then if (q2.2.1 (q2.2.2.2.1 x0 6)).1 = 1 then if (q2.2.1 x0).1 = 10 then if (q2.2.1 (q2.2.2.2.1 x0 6)).1 = 1 then if ((q2.2.1 (q2.2.2.2.1 (q2.2.2.2.1 x0 6) 0)).1 : Int) = 5 then (G 66 [.inr (.inr (q2.2.2.2.1 (q2.2.2.2.1 x0 6) 0)), .inl (σ.2.1 (σ.2.2.1 x0 6) 2), .inl (q2.2.2.1 (q2.2.2.2.1 x0 6) 3)] q2.2).bind fun q3 => if (q3.2.1 x0).1 = 10 then if (q3.2.1 (q3.2.2.2.1 x0 6)).1 = 1 then if ((q3.2.1 (q3.2.2.2.1 (q3.2.2.2.1 x0 6) 1)).1 : Int) = 0 then (G 13 [.inr (.inr (q3.2.2.2.1 (q3.2.2.2.1 x0 6) 1)), .inl (σ.2.1 (σ.2.2.1 x0 6) 2)] q3.2).bind fun q4 => if (q4.2.1 x0).1 = 10 then if (q4.2.1 (q4.2.2.2.1 x0 6)).1 = 1 then let s5 : zM := zi_wr q4.2 (q4.2.2.2.1 x0 6) 2 (zi_w ((σ.2.1 (σ.2.2.1 x0 6) 2) + 1)); if (s5.1 x0).1 = 10 then if (s5.1 (s5.2.2.1 x0 6)).1 = 1 then let s6 : zM := zi_wr s5 (s5.2.2.1 x0 6) 3 0; if ((s6.1 x0).1 : Int) = 10 then (G 125 [.inr (.inr x0)] s6).bind fun q7 => if (q7.2.1 x0).1 = 10 then if (q7.2.1 (q7.2.2.2.1 x0 6)).1 = 1 then if (q7.2.1 (q7.2.2.2.1 (q7.2.2.2.1 x0 6) 0)).1 = 5 then some ((q7.2.2.1 (q7.2.2.2.1 (q7.2.2.2.1 x0 6) 0) 0), q7.2) else none else none else none else none else none else none else none else none else none else none else none else none else none else none else none else none else none else none else none) else (some ((-3), q1.2)) else none else none else none) else (some ((-2), q1.2)) else none else none else none else none else none) := rfl
theorem zm_116 {d : Nat} {x0 : Int} {σ : zM} : zG (d + 1) 116 [.inr (.inr x0)] σ = ((fun (G : Nat → List zV → zM → zR) (K : Nat → zL → List zV → zM → zR) => if (σ.1 x0).1 = 10 then if (σ.1 (σ.2.2.1 x0 6)).1 = 1 then if (σ.1 x0).1 = 10 then if (σ.1 (σ.2.2.1 x0 6)).1 = 1 then if ((σ.1 (σ.2.2.1 (σ.2.2.1 x0 6) 1)).1 : Int) = 0 then (G 9 [.inr (.inr (σ.2.2.1 (σ.2.2.1 x0 6) 1)), .inl (σ.2.1 (σ.2.2.1 x0 6) 2)] σ).bind fun q1 => if (q1.1 : Int) = 0 then (if (q1.2.1 x0).1 = 10 then if (q1.2.1 (q1.2.2.2.1 x0 6)).1 = 1 then if (q1.2.1 (q1.2.2.2.1 (q1.2.2.2.1 x0 6) 0)).1 = 5 then if ((q1.2.2.1 (q1.2.2.2.1 (q1.2.2.2.1 x0 6) 0) 0) : Int) < 12 then (if (q1.2.1 x0).1 = 10 then if (q1.2.1 x0).1 = 10 then if ((q1.2.1 (q1.2.2.2.1 x0 2)).1 : Int) = 2 then (G 27 [.inr (.inr (q1.2.2.2.1 x0 2)), .inr (.inr (q1.2.2.2.1 x0 6))] q1.2).bind fun q2 => if (q2.2.1 x0).1 = 10 then if (q2.2.1 (q2.2.2.2.1 x0 6)).1 = 1 then if (q2.2.1 x0).1 = 10 then if (q2.2.1 (q2.2.2.2.1 x0 6)).1 = 1 then if ((q2.2.1 (q2.2.2.2.1 (q2.2.2.2.1 x0 6) 0)).1 : Int) = 5 then (G 66 [.inr (.inr (q2.2.2.2.1 (q2.2.2.2.1 x0 6) 0)), .inl (σ.2.1 (σ.2.2.1 x0 6) 2), .inl (q2.2.2.1 (q2.2.2.2.1 x0 6) 3)] q2.2).bind fun q3 => if (q3.2.1 x0).1 = 10 then if (q3.2.1 (q3.2.2.2.1 x0 6)).1 = 1 then if ((q3.2.1 (q3.2.2.2.1 (q3.2.2.2.1 x0 6) 1)).1 : Int) = 0 then (G 13 [.inr (.inr (q3.2.2.2.1 (q3.2.2.2.1 x0 6) 1)), .inl (σ.2.1 (σ.2.2.1 x0 6) 2)] q3.2).bind fun q4 => if (q4.2.1 x0).1 = 10 then if (q4.2.1 (q4.2.2.2.1 x0 6)).1 = 1 then let s5 : zM := zi_wr q4.2 (q4.2.2.2.1 x0 6) 2 (zi_w ((σ.2.1 (σ.2.2.1 x0 6) 2) + 1)); if (s5.1 x0).1 = 10 then if (s5.1 (s5.2.2.1 x0 6)).1 = 1 then let s6 : zM := zi_wr s5 (s5.2.2.1 x0 6) 3 0; if ((s6.1 x0).1 : Int) = 10 then (G 125 [.inr (.inr x0)] s6).bind fun q7 => if (q7.2.1 x0).1 = 10 then if (q7.2.1 (q7.2.2.2.1 x0 6)).1 = 1 then if (q7.2.1 (q7.2.2.2.1 (q7.2.2.2.1 x0 6) 0)).1 = 5 then some ((q7.2.2.1 (q7.2.2.2.1 (q7.2.2.2.1 x0 6) 0) 0), q7.2) else none else none else none else none else none else none else none else none else none else none else none else none else none else none else none else none else none else none else none) else (some ((-3), q1.2)) else none else none else none) else (some ((-2), q1.2)) else none else none else none else none else none) (zG d) (zi_run zt_116 (zG d) 19999)) := (zG_eq zt_116 rfl rfl rfl).trans ze_116_0
-- FoldedRows.undo()I
set_option maxRecDepth 20000 in
theorem ze_117_0 {G : Nat → List zV → zM → zR} {K : Nat → zL → List zV → zM → zR} {x0 : Int} {σ : zM} : zi_fr zt_117 G K 600 0 [some (.inr (.inr x0))] [] σ = (if (σ.1 x0).1 = 10 then if (σ.1 (σ.2.2.1 x0 2)).1 = 2 then if ((σ.2.1 (σ.2.2.1 x0 2) 1) : Int) = 0 then (some ((-2), σ)) else (if (σ.1 x0).1 = 10 then if (σ.1 x0).1 = 10 then if ((σ.1 (σ.2.2.1 x0 2)).1 : Int) = 2 then (G 28 [.inr (.inr (σ.2.2.1 x0 2)), .inr (.inr (σ.2.2.1 x0 6))] σ).bind fun q1 => if (q1.2.1 x0).1 = 10 then let s2 : zM := zi_wq q1.2 x0 6 q1.1; if ((s2.1 x0).1 : Int) = 10 then (G 125 [.inr (.inr x0)] s2).bind fun q3 => if (q3.2.1 x0).1 = 10 then if (q3.2.1 (q3.2.2.2.1 x0 2)).1 = 2 then some ((q3.2.2.1 (q3.2.2.2.1 x0 2) 1), q3.2) else none else none else none else none else none else none else none) else none else none) := rfl
theorem zm_117 {d : Nat} {x0 : Int} {σ : zM} : zG (d + 1) 117 [.inr (.inr x0)] σ = ((fun (G : Nat → List zV → zM → zR) (K : Nat → zL → List zV → zM → zR) => if (σ.1 x0).1 = 10 then if (σ.1 (σ.2.2.1 x0 2)).1 = 2 then if ((σ.2.1 (σ.2.2.1 x0 2) 1) : Int) = 0 then (some ((-2), σ)) else (if (σ.1 x0).1 = 10 then if (σ.1 x0).1 = 10 then if ((σ.1 (σ.2.2.1 x0 2)).1 : Int) = 2 then (G 28 [.inr (.inr (σ.2.2.1 x0 2)), .inr (.inr (σ.2.2.1 x0 6))] σ).bind fun q1 => if (q1.2.1 x0).1 = 10 then let s2 : zM := zi_wq q1.2 x0 6 q1.1; if ((s2.1 x0).1 : Int) = 10 then (G 125 [.inr (.inr x0)] s2).bind fun q3 => if (q3.2.1 x0).1 = 10 then if (q3.2.1 (q3.2.2.2.1 x0 2)).1 = 2 then some ((q3.2.2.1 (q3.2.2.2.1 x0 2) 1), q3.2) else none else none else none else none else none else none else none) else none else none) (zG d) (zi_run zt_117 (zG d) 19999)) := (zG_eq zt_117 rfl rfl rfl).trans ze_117_0
-- FoldedRows.redo()I
set_option maxRecDepth 20000 in
theorem ze_118_0 {G : Nat → List zV → zM → zR} {K : Nat → zL → List zV → zM → zR} {x0 : Int} {σ : zM} : zi_fr zt_118 G K 600 0 [some (.inr (.inr x0))] [] σ = (if (σ.1 x0).1 = 10 then if (σ.1 (σ.2.2.1 x0 2)).1 = 2 then if ((σ.2.1 (σ.2.2.1 x0 2) 2) : Int) = 0 then (some ((-2), σ)) else (if (σ.1 x0).1 = 10 then if (σ.1 x0).1 = 10 then if ((σ.1 (σ.2.2.1 x0 2)).1 : Int) = 2 then (G 29 [.inr (.inr (σ.2.2.1 x0 2)), .inr (.inr (σ.2.2.1 x0 6))] σ).bind fun q1 => if (q1.2.1 x0).1 = 10 then let s2 : zM := zi_wq q1.2 x0 6 q1.1; if ((s2.1 x0).1 : Int) = 10 then (G 125 [.inr (.inr x0)] s2).bind fun q3 => if (q3.2.1 x0).1 = 10 then if (q3.2.1 (q3.2.2.2.1 x0 2)).1 = 2 then some ((q3.2.2.1 (q3.2.2.2.1 x0 2) 2), q3.2) else none else none else none else none else none else none else none) else none else none) := rfl
theorem zm_118 {d : Nat} {x0 : Int} {σ : zM} : zG (d + 1) 118 [.inr (.inr x0)] σ = ((fun (G : Nat → List zV → zM → zR) (K : Nat → zL → List zV → zM → zR) => if (σ.1 x0).1 = 10 then if (σ.1 (σ.2.2.1 x0 2)).1 = 2 then if ((σ.2.1 (σ.2.2.1 x0 2) 2) : Int) = 0 then (some ((-2), σ)) else (if (σ.1 x0).1 = 10 then if (σ.1 x0).1 = 10 then if ((σ.1 (σ.2.2.1 x0 2)).1 : Int) = 2 then (G 29 [.inr (.inr (σ.2.2.1 x0 2)), .inr (.inr (σ.2.2.1 x0 6))] σ).bind fun q1 => if (q1.2.1 x0).1 = 10 then let s2 : zM := zi_wq q1.2 x0 6 q1.1; if ((s2.1 x0).1 : Int) = 10 then (G 125 [.inr (.inr x0)] s2).bind fun q3 => if (q3.2.1 x0).1 = 10 then if (q3.2.1 (q3.2.2.2.1 x0 2)).1 = 2 then some ((q3.2.2.1 (q3.2.2.2.1 x0 2) 2), q3.2) else none else none else none else none else none else none else none) else none else none) (zG d) (zi_run zt_118 (zG d) 19999)) := (zG_eq zt_118 rfl rfl rfl).trans ze_118_0
-- FoldedRows.wrap(II)I
set_option maxRecDepth 20000 in
theorem ze_119_0 {G : Nat → List zV → zM → zR} {K : Nat → zL → List zV → zM → zR} {x0 x1 x2 : Int} {σ : zM} : zi_fr zt_119 G K 600 0 [some (.inr (.inr x0)), some (.inl x1), some (.inl x2)] [] σ = (if (σ.1 x0).1 = 10 then if (σ.1 (σ.2.2.1 x0 6)).1 = 1 then if ((σ.1 (σ.2.2.1 (σ.2.2.1 x0 6) 0)).1 : Int) = 5 then (G 56 [.inr (.inr (σ.2.2.1 (σ.2.2.1 x0 6) 0)), .inl x1] σ).bind fun q1 => if (q1.1 : Int) = 0 then (some ((-1), q1.2)) else (if (q1.2.1 x0).1 = 10 then if (q1.2.1 (q1.2.2.2.1 x0 6)).1 = 1 then if ((q1.2.1 (q1.2.2.2.1 (q1.2.2.2.1 x0 6) 0)).1 : Int) = 5 then (G 56 [.inr (.inr (q1.2.2.2.1 (q1.2.2.2.1 x0 6) 0)), .inl x2] q1.2).bind fun q2 => if (q2.1 : Int) = 0 then (some ((-1), q2.2)) else (if (x1 : Int) < x2 then (if (q2.2.1 x0).1 = 10 then if (q2.2.1 (q2.2.2.2.1 x0 6)).1 = 1 then if ((q2.2.1 (q2.2.2.2.1 (q2.2.2.2.1 x0 6) 1)).1 : Int) = 0 then (G 10 [.inr (.inr (q2.2.2.2.1 (q2.2.2.2.1 x0 6) 1)), .inl x1, .inl x2] q2.2).bind fun q3 => if (q3.1 : Int) = 0 then (if (q3.2.1 x0).1 = 10 then if (q3.2.1 (q3.2.2.2.1 x0 6)).1 = 1 then if (q3.2.1 (q3.2.2.2.1 (q3.2.2.2.1 x0 6) 1)).1 = 0 then if ((q3.2.2.1 (q3.2.2.2.1 (q3.2.2.2.1 x0 6) 1) 0) : Int) < 8 then (if (q3.2.1 x0).1 = 10 then if (q3.2.1 (q3.2.2.2.1 x0 6)).1 = 1 then if ((q3.2.1 (q3.2.2.2.1 (q3.2.2.2.1 x0 6) 1)).1 : Int) = 0 then (G 11 [.inr (.inr (q3.2.2.2.1 (q3.2.2.2.1 x0 6) 1)), .inl x1, .inl x2] q3.2).bind fun q4 => some (q4.1, q4.2) else none else none else none) else (some ((-3), q3.2)) else none else none else none) else (some ((-2), q3.2)) else none else none else none) else (some ((-1), q2.2))) else none else none else none) else none else none else none) := rfl
theorem zm_119 {d : Nat} {x0 x1 x2 : Int} {σ : zM} : zG (d + 1) 119 [.inr (.inr x0), .inl x1, .inl x2] σ = ((fun (G : Nat → List zV → zM → zR) (K : Nat → zL → List zV → zM → zR) => if (σ.1 x0).1 = 10 then if (σ.1 (σ.2.2.1 x0 6)).1 = 1 then if ((σ.1 (σ.2.2.1 (σ.2.2.1 x0 6) 0)).1 : Int) = 5 then (G 56 [.inr (.inr (σ.2.2.1 (σ.2.2.1 x0 6) 0)), .inl x1] σ).bind fun q1 => if (q1.1 : Int) = 0 then (some ((-1), q1.2)) else (if (q1.2.1 x0).1 = 10 then if (q1.2.1 (q1.2.2.2.1 x0 6)).1 = 1 then if ((q1.2.1 (q1.2.2.2.1 (q1.2.2.2.1 x0 6) 0)).1 : Int) = 5 then (G 56 [.inr (.inr (q1.2.2.2.1 (q1.2.2.2.1 x0 6) 0)), .inl x2] q1.2).bind fun q2 => if (q2.1 : Int) = 0 then (some ((-1), q2.2)) else (if (x1 : Int) < x2 then (if (q2.2.1 x0).1 = 10 then if (q2.2.1 (q2.2.2.2.1 x0 6)).1 = 1 then if ((q2.2.1 (q2.2.2.2.1 (q2.2.2.2.1 x0 6) 1)).1 : Int) = 0 then (G 10 [.inr (.inr (q2.2.2.2.1 (q2.2.2.2.1 x0 6) 1)), .inl x1, .inl x2] q2.2).bind fun q3 => if (q3.1 : Int) = 0 then (if (q3.2.1 x0).1 = 10 then if (q3.2.1 (q3.2.2.2.1 x0 6)).1 = 1 then if (q3.2.1 (q3.2.2.2.1 (q3.2.2.2.1 x0 6) 1)).1 = 0 then if ((q3.2.2.1 (q3.2.2.2.1 (q3.2.2.2.1 x0 6) 1) 0) : Int) < 8 then (if (q3.2.1 x0).1 = 10 then if (q3.2.1 (q3.2.2.2.1 x0 6)).1 = 1 then if ((q3.2.1 (q3.2.2.2.1 (q3.2.2.2.1 x0 6) 1)).1 : Int) = 0 then (G 11 [.inr (.inr (q3.2.2.2.1 (q3.2.2.2.1 x0 6) 1)), .inl x1, .inl x2] q3.2).bind fun q4 => some (q4.1, q4.2) else none else none else none) else (some ((-3), q3.2)) else none else none else none) else (some ((-2), q3.2)) else none else none else none) else (some ((-1), q2.2))) else none else none else none) else none else none else none) (zG d) (zi_run zt_119 (zG d) 19999)) := (zG_eq zt_119 rfl rfl rfl).trans ze_119_0
-- FoldedRows.shut(II)I
set_option maxRecDepth 20000 in
theorem ze_120_0 {G : Nat → List zV → zM → zR} {K : Nat → zL → List zV → zM → zR} {x0 x1 x2 : Int} {σ : zM} : zi_fr zt_120 G K 600 0 [some (.inr (.inr x0)), some (.inl x1), some (.inl x2), none, none] [] σ = (if (σ.1 x0).1 = 10 then if (σ.1 (σ.2.2.1 x0 6)).1 = 1 then if ((σ.1 (σ.2.2.1 (σ.2.2.1 x0 6) 1)).1 : Int) = 0 then (G 1 [.inr (.inr (σ.2.2.1 (σ.2.2.1 x0 6) 1)), .inl x1] σ).bind fun q1 => if (q1.1 : Int) = 0 then (some ((-1), q1.2)) else (if (x2 : Int) = 0 then (if ((q1.2.1 (σ.2.2.1 (σ.2.2.1 x0 6) 1)).1 : Int) = 0 then (G 4 [.inr (.inr (σ.2.2.1 (σ.2.2.1 x0 6) 1)), .inl x1] q1.2).bind fun q2 => if (q2.1 : Int) = 0 then (K 40 [some (.inr (.inr x0)), some (.inl x1), some (.inl x2), some (.inr (.inr (σ.2.2.1 (σ.2.2.1 x0 6) 1))), none] [.inl 0] q2.2) else (K 40 [some (.inr (.inr x0)), some (.inl x1), some (.inl x2), some (.inr (.inr (σ.2.2.1 (σ.2.2.1 x0 6) 1))), none] [.inl 1] q2.2) else none) else (if (x2 : Int) = 1 then (if ((q1.2.1 (σ.2.2.1 (σ.2.2.1 x0 6) 1)).1 : Int) = 0 then (G 4 [.inr (.inr (σ.2.2.1 (σ.2.2.1 x0 6) 1)), .inl x1] q1.2).bind fun q3 => if (q3.1 : Int) = 0 then (K 40 [some (.inr (.inr x0)), some (.inl x1), some (.inl x2), some (.inr (.inr (σ.2.2.1 (σ.2.2.1 x0 6) 1))), none] [.inl 0] q3.2) else (K 40 [some (.inr (.inr x0)), some (.inl x1), some (.inl x2), some (.inr (.inr (σ.2.2.1 (σ.2.2.1 x0 6) 1))), none] [.inl 1] q3.2) else none) else (some ((-1), q1.2)))) else none else none else none) := rfl
theorem zm_120 {d : Nat} {x0 x1 x2 : Int} {σ : zM} : zG (d + 1) 120 [.inr (.inr x0), .inl x1, .inl x2] σ = ((fun (G : Nat → List zV → zM → zR) (K : Nat → zL → List zV → zM → zR) => if (σ.1 x0).1 = 10 then if (σ.1 (σ.2.2.1 x0 6)).1 = 1 then if ((σ.1 (σ.2.2.1 (σ.2.2.1 x0 6) 1)).1 : Int) = 0 then (G 1 [.inr (.inr (σ.2.2.1 (σ.2.2.1 x0 6) 1)), .inl x1] σ).bind fun q1 => if (q1.1 : Int) = 0 then (some ((-1), q1.2)) else (if (x2 : Int) = 0 then (if ((q1.2.1 (σ.2.2.1 (σ.2.2.1 x0 6) 1)).1 : Int) = 0 then (G 4 [.inr (.inr (σ.2.2.1 (σ.2.2.1 x0 6) 1)), .inl x1] q1.2).bind fun q2 => if (q2.1 : Int) = 0 then (K 40 [some (.inr (.inr x0)), some (.inl x1), some (.inl x2), some (.inr (.inr (σ.2.2.1 (σ.2.2.1 x0 6) 1))), none] [.inl 0] q2.2) else (K 40 [some (.inr (.inr x0)), some (.inl x1), some (.inl x2), some (.inr (.inr (σ.2.2.1 (σ.2.2.1 x0 6) 1))), none] [.inl 1] q2.2) else none) else (if (x2 : Int) = 1 then (if ((q1.2.1 (σ.2.2.1 (σ.2.2.1 x0 6) 1)).1 : Int) = 0 then (G 4 [.inr (.inr (σ.2.2.1 (σ.2.2.1 x0 6) 1)), .inl x1] q1.2).bind fun q3 => if (q3.1 : Int) = 0 then (K 40 [some (.inr (.inr x0)), some (.inl x1), some (.inl x2), some (.inr (.inr (σ.2.2.1 (σ.2.2.1 x0 6) 1))), none] [.inl 0] q3.2) else (K 40 [some (.inr (.inr x0)), some (.inl x1), some (.inl x2), some (.inr (.inr (σ.2.2.1 (σ.2.2.1 x0 6) 1))), none] [.inl 1] q3.2) else none) else (some ((-1), q1.2)))) else none else none else none) (zG d) (zi_run zt_120 (zG d) 19999)) := (zG_eq zt_120 rfl rfl rfl).trans ze_120_0
set_option maxRecDepth 20000 in
theorem ze_120_40 {G : Nat → List zV → zM → zR} {K : Nat → zL → List zV → zM → zR} {x0 x1 x2 x3 y0 : Int} {σ : zM} : zi_fr zt_120 G K 600 40 [some (.inr (.inr x0)), some (.inl x1), some (.inl x2), some (.inr (.inr x3)), none] [.inl y0] σ = (if ((σ.1 x3).1 : Int) = 0 then (G 5 [.inr (.inr x3), .inl x1, .inl x2] σ).bind fun q1 => if (q1.2.1 x0).1 = 10 then if (q1.2.1 (q1.2.2.2.1 x0 6)).1 = 1 then if ((q1.2.1 x3).1 : Int) = 0 then (G 8 [.inr (.inr x3), .inl (q1.2.2.1 (q1.2.2.2.1 x0 6) 2)] q1.2).bind fun q2 => if (q2.1 : Int) = 0 then (some (y0, q2.2)) else (if ((q2.2.1 x3).1 : Int) = 0 then (G 2 [.inr (.inr x3), .inl x1] q2.2).bind fun q3 => if ((q3.2.1 x0).1 : Int) = 10 then (G 128 [.inr (.inr x0), .inl q3.1, .inl 0] q3.2).bind fun q4 => some (y0, q4.2) else none else none) else none else none else none else none) := rfl
theorem zk_120_40 {G : Nat → List zV → zM → zR} {n : Nat} {x0 x1 x2 x3 y0 : Int} {σ : zM} : zi_run zt_120 G (n + 1) 40 [some (.inr (.inr x0)), some (.inl x1), some (.inl x2), some (.inr (.inr x3)), none] [.inl y0] σ = ((fun (K : Nat → zL → List zV → zM → zR) => if ((σ.1 x3).1 : Int) = 0 then (G 5 [.inr (.inr x3), .inl x1, .inl x2] σ).bind fun q1 => if (q1.2.1 x0).1 = 10 then if (q1.2.1 (q1.2.2.2.1 x0 6)).1 = 1 then if ((q1.2.1 x3).1 : Int) = 0 then (G 8 [.inr (.inr x3), .inl (q1.2.2.1 (q1.2.2.2.1 x0 6) 2)] q1.2).bind fun q2 => if (q2.1 : Int) = 0 then (some (y0, q2.2)) else (if ((q2.2.1 x3).1 : Int) = 0 then (G 2 [.inr (.inr x3), .inl x1] q2.2).bind fun q3 => if ((q3.2.1 x0).1 : Int) = 10 then (G 128 [.inr (.inr x0), .inl q3.1, .inl 0] q3.2).bind fun q4 => some (y0, q4.2) else none else none) else none else none else none else none) (zi_run zt_120 G n)) := zi_run_succ.trans ze_120_40
-- FoldedRows.set(II)I
set_option maxRecDepth 20000 in
theorem ze_121_0 {G : Nat → List zV → zM → zR} {K : Nat → zL → List zV → zM → zR} {x0 x1 x2 : Int} {σ : zM} : zi_fr zt_121 G K 600 0 [some (.inr (.inr x0)), some (.inl x1), some (.inl x2), none] [] σ = ((G 84 [.inl x1, .inl x2] σ).bind fun q1 => if (q1.1 : Int) = 0 then (some ((-1), q1.2)) else (if (q1.2.1 x0).1 = 10 then if ((q1.2.1 (q1.2.2.2.1 x0 1)).1 : Int) = 7 then (G 85 [.inr (.inr (q1.2.2.2.1 x0 1)), .inl x1, .inl x2] q1.2).bind fun q2 => if ((q2.2.1 x0).1 : Int) = 10 then (G 125 [.inr (.inr x0)] q2.2).bind fun q3 => some (q2.1, q3.2) else none else none else none)) := rfl
theorem zm_121 {d : Nat} {x0 x1 x2 : Int} {σ : zM} : zG (d + 1) 121 [.inr (.inr x0), .inl x1, .inl x2] σ = ((fun (G : Nat → List zV → zM → zR) (K : Nat → zL → List zV → zM → zR) => (G 84 [.inl x1, .inl x2] σ).bind fun q1 => if (q1.1 : Int) = 0 then (some ((-1), q1.2)) else (if (q1.2.1 x0).1 = 10 then if ((q1.2.1 (q1.2.2.2.1 x0 1)).1 : Int) = 7 then (G 85 [.inr (.inr (q1.2.2.2.1 x0 1)), .inl x1, .inl x2] q1.2).bind fun q2 => if ((q2.2.1 x0).1 : Int) = 10 then (G 125 [.inr (.inr x0)] q2.2).bind fun q3 => some (q2.1, q3.2) else none else none else none)) (zG d) (zi_run zt_121 (zG d) 19999)) := (zG_eq zt_121 rfl rfl rfl).trans ze_121_0
-- FoldedRows.keep(I)I
set_option maxRecDepth 20000 in
theorem ze_122_0 {G : Nat → List zV → zM → zR} {K : Nat → zL → List zV → zM → zR} {x0 x1 : Int} {σ : zM} : zi_fr zt_122 G K 600 0 [some (.inr (.inr x0)), some (.inl x1), none, none] [] σ = (if ((σ.1 x0).1 : Int) = 10 then (G 133 [.inr (.inr x0), .inl x1] σ).bind fun q1 => if q1.1 = 0 then (some ((-1), q1.2)) else (if (q1.2.1 q1.1).1 = 3 then if ((q1.2.2.1 q1.1 2) : Int) = 0 then (if (q1.2.1 q1.1).1 = 3 ∧ ((1 : Int) = 0 ∨ (1 : Int) = 1) then let s2 : zM := zi_wr q1.2 q1.1 2 1; if (s2.1 q1.1).1 = 3 then if (s2.1 x0).1 = 10 then if ((s2.1 (s2.2.2.1 q1.1 0)).1 : Int) = 1 then (G 21 [.inr (.inr (s2.2.2.1 q1.1 0)), .inr (.inr (s2.2.2.1 x0 6))] s2).bind fun q3 => if (q3.2.1 q1.1).1 = 3 then if (q3.2.1 x0).1 = 10 then if ((q3.2.1 (q3.2.2.2.1 q1.1 1)).1 : Int) = 7 then (G 86 [.inr (.inr (q3.2.2.2.1 q1.1 1)), .inr (.inr (q3.2.2.2.1 x0 1))] q3.2).bind fun q4 => some (0, q4.2) else none else none else none else none else none else none else none) else (if (q1.2.1 q1.1).1 = 3 ∧ ((1 : Int) = 0 ∨ (1 : Int) = 1) then let s5 : zM := zi_wr q1.2 q1.1 2 1; if (s5.1 q1.1).1 = 3 then if (s5.1 x0).1 = 10 then if ((s5.1 (s5.2.2.1 q1.1 0)).1 : Int) = 1 then (G 21 [.inr (.inr (s5.2.2.1 q1.1 0)), .inr (.inr (s5.2.2.1 x0 6))] s5).bind fun q6 => if (q6.2.1 q1.1).1 = 3 then if (q6.2.1 x0).1 = 10 then if ((q6.2.1 (q6.2.2.2.1 q1.1 1)).1 : Int) = 7 then (G 86 [.inr (.inr (q6.2.2.2.1 q1.1 1)), .inr (.inr (q6.2.2.2.1 x0 1))] q6.2).bind fun q7 => some (1, q7.2) else none else none else none else none else none else none else none) else none) else none) := rfl
theorem zm_122 {d : Nat} {x0 x1 : Int} {σ : zM} : zG (d + 1) 122 [.inr (.inr x0), .inl x1] σ = ((fun (G : Nat → List zV → zM → zR) (K : Nat → zL → List zV → zM → zR) => if ((σ.1 x0).1 : Int) = 10 then (G 133 [.inr (.inr x0), .inl x1] σ).bind fun q1 => if q1.1 = 0 then (some ((-1), q1.2)) else (if (q1.2.1 q1.1).1 = 3 then if ((q1.2.2.1 q1.1 2) : Int) = 0 then (if (q1.2.1 q1.1).1 = 3 ∧ ((1 : Int) = 0 ∨ (1 : Int) = 1) then let s2 : zM := zi_wr q1.2 q1.1 2 1; if (s2.1 q1.1).1 = 3 then if (s2.1 x0).1 = 10 then if ((s2.1 (s2.2.2.1 q1.1 0)).1 : Int) = 1 then (G 21 [.inr (.inr (s2.2.2.1 q1.1 0)), .inr (.inr (s2.2.2.1 x0 6))] s2).bind fun q3 => if (q3.2.1 q1.1).1 = 3 then if (q3.2.1 x0).1 = 10 then if ((q3.2.1 (q3.2.2.2.1 q1.1 1)).1 : Int) = 7 then (G 86 [.inr (.inr (q3.2.2.2.1 q1.1 1)), .inr (.inr (q3.2.2.2.1 x0 1))] q3.2).bind fun q4 => some (0, q4.2) else none else none else none else none else none else none else none) else (if (q1.2.1 q1.1).1 = 3 ∧ ((1 : Int) = 0 ∨ (1 : Int) = 1) then let s5 : zM := zi_wr q1.2 q1.1 2 1; if (s5.1 q1.1).1 = 3 then if (s5.1 x0).1 = 10 then if ((s5.1 (s5.2.2.1 q1.1 0)).1 : Int) = 1 then (G 21 [.inr (.inr (s5.2.2.1 q1.1 0)), .inr (.inr (s5.2.2.1 x0 6))] s5).bind fun q6 => if (q6.2.1 q1.1).1 = 3 then if (q6.2.1 x0).1 = 10 then if ((q6.2.1 (q6.2.2.2.1 q1.1 1)).1 : Int) = 7 then (G 86 [.inr (.inr (q6.2.2.2.1 q1.1 1)), .inr (.inr (q6.2.2.2.1 x0 1))] q6.2).bind fun q7 => some (1, q7.2) else none else none else none else none else none else none else none) else none) else none) (zG d) (zi_run zt_122 (zG d) 19999)) := (zG_eq zt_122 rfl rfl rfl).trans ze_122_0
-- FoldedRows.back(I)I
set_option maxRecDepth 20000 in
theorem ze_123_0 {G : Nat → List zV → zM → zR} {K : Nat → zL → List zV → zM → zR} {x0 x1 : Int} {σ : zM} : zi_fr zt_123 G K 600 0 [some (.inr (.inr x0)), some (.inl x1), none] [] σ = (if ((σ.1 x0).1 : Int) = 10 then (G 133 [.inr (.inr x0), .inl x1] σ).bind fun q1 => if q1.1 = 0 then (some ((-1), q1.2)) else (if (q1.2.1 q1.1).1 = 3 then if ((q1.2.2.1 q1.1 2) : Int) = 0 then (some ((-2), q1.2)) else (if (q1.2.1 x0).1 = 10 then if (q1.2.1 q1.1).1 = 3 then if ((q1.2.1 (q1.2.2.2.1 x0 6)).1 : Int) = 1 then (G 21 [.inr (.inr (q1.2.2.2.1 x0 6)), .inr (.inr (q1.2.2.2.1 q1.1 0))] q1.2).bind fun q2 => if (q2.2.1 x0).1 = 10 then if (q2.2.1 q1.1).1 = 3 then if ((q2.2.1 (q2.2.2.2.1 x0 1)).1 : Int) = 7 then (G 86 [.inr (.inr (q2.2.2.2.1 x0 1)), .inr (.inr (q2.2.2.2.1 q1.1 1))] q2.2).bind fun q3 => if (q3.2.1 x0).1 = 10 then if ((q3.2.1 (q3.2.2.2.1 x0 2)).1 : Int) = 2 then (G 26 [.inr (.inr (q3.2.2.2.1 x0 2))] q3.2).bind fun q4 => if ((q4.2.1 x0).1 : Int) = 10 then (G 125 [.inr (.inr x0)] q4.2).bind fun q5 => if (q5.2.1 x0).1 = 10 then if (q5.2.1 (q5.2.2.2.1 x0 6)).1 = 1 then if (q5.2.1 (q5.2.2.2.1 (q5.2.2.2.1 x0 6) 0)).1 = 5 then some ((q5.2.2.1 (q5.2.2.2.1 (q5.2.2.2.1 x0 6) 0) 0), q5.2) else none else none else none else none else none else none else none else none else none else none else none else none) else none) else none) := rfl
theorem zm_123 {d : Nat} {x0 x1 : Int} {σ : zM} : zG (d + 1) 123 [.inr (.inr x0), .inl x1] σ = ((fun (G : Nat → List zV → zM → zR) (K : Nat → zL → List zV → zM → zR) => if ((σ.1 x0).1 : Int) = 10 then (G 133 [.inr (.inr x0), .inl x1] σ).bind fun q1 => if q1.1 = 0 then (some ((-1), q1.2)) else (if (q1.2.1 q1.1).1 = 3 then if ((q1.2.2.1 q1.1 2) : Int) = 0 then (some ((-2), q1.2)) else (if (q1.2.1 x0).1 = 10 then if (q1.2.1 q1.1).1 = 3 then if ((q1.2.1 (q1.2.2.2.1 x0 6)).1 : Int) = 1 then (G 21 [.inr (.inr (q1.2.2.2.1 x0 6)), .inr (.inr (q1.2.2.2.1 q1.1 0))] q1.2).bind fun q2 => if (q2.2.1 x0).1 = 10 then if (q2.2.1 q1.1).1 = 3 then if ((q2.2.1 (q2.2.2.2.1 x0 1)).1 : Int) = 7 then (G 86 [.inr (.inr (q2.2.2.2.1 x0 1)), .inr (.inr (q2.2.2.2.1 q1.1 1))] q2.2).bind fun q3 => if (q3.2.1 x0).1 = 10 then if ((q3.2.1 (q3.2.2.2.1 x0 2)).1 : Int) = 2 then (G 26 [.inr (.inr (q3.2.2.2.1 x0 2))] q3.2).bind fun q4 => if ((q4.2.1 x0).1 : Int) = 10 then (G 125 [.inr (.inr x0)] q4.2).bind fun q5 => if (q5.2.1 x0).1 = 10 then if (q5.2.1 (q5.2.2.2.1 x0 6)).1 = 1 then if (q5.2.1 (q5.2.2.2.1 (q5.2.2.2.1 x0 6) 0)).1 = 5 then some ((q5.2.2.1 (q5.2.2.2.1 (q5.2.2.2.1 x0 6) 0) 0), q5.2) else none else none else none else none else none else none else none else none else none else none else none else none) else none) else none) (zG d) (zi_run zt_123 (zG d) 19999)) := (zG_eq zt_123 rfl rfl rfl).trans ze_123_0
-- FoldedRows.joinWithLineAhead()I
set_option maxRecDepth 20000 in
theorem ze_124_0 {G : Nat → List zV → zM → zR} {K : Nat → zL → List zV → zM → zR} {x0 : Int} {σ : zM} : zi_fr zt_124 G K 600 0 [some (.inr (.inr x0)), none, none] [] σ = (if (σ.1 x0).1 = 10 then if (σ.1 (σ.2.2.1 x0 6)).1 = 1 then if ((zi_w ((σ.2.1 (σ.2.2.1 x0 6) 2) - 1)) : Int) < 0 then (some ((-4), σ)) else (if (σ.1 x0).1 = 10 then if (σ.1 (σ.2.2.1 x0 6)).1 = 1 then if ((σ.1 (σ.2.2.1 (σ.2.2.1 x0 6) 1)).1 : Int) = 0 then (G 8 [.inr (.inr (σ.2.2.1 (σ.2.2.1 x0 6) 1)), .inl (zi_w ((σ.2.1 (σ.2.2.1 x0 6) 2) - 1))] σ).bind fun q1 => if (q1.1 : Int) = 0 then (if (q1.2.1 x0).1 = 10 then if (q1.2.1 (q1.2.2.2.1 x0 6)).1 = 1 then if ((q1.2.1 (q1.2.2.2.1 (q1.2.2.2.1 x0 6) 0)).1 : Int) = 5 then (G 58 [.inr (.inr (q1.2.2.2.1 (q1.2.2.2.1 x0 6) 0)), .inl (zi_w ((σ.2.1 (σ.2.2.1 x0 6) 2) - 1))] q1.2).bind fun q2 => if (q2.2.1 x0).1 = 10 then if (q2.2.1 (q2.2.2.2.1 x0 6)).1 = 1 then if ((q2.2.1 (q2.2.2.2.1 (q2.2.2.2.1 x0 6) 0)).1 : Int) = 5 then (G 58 [.inr (.inr (q2.2.2.2.1 (q2.2.2.2.1 x0 6) 0)), .inl (zi_w ((zi_w ((σ.2.1 (σ.2.2.1 x0 6) 2) - 1)) + 1))] q2.2).bind fun q3 => if (40 : Int) < (zi_w (q2.1 + q3.1)) then (some ((-3), q3.2)) else (if (q3.2.1 x0).1 = 10 then if (q3.2.1 x0).1 = 10 then if ((q3.2.1 (q3.2.2.2.1 x0 2)).1 : Int) = 2 then (G 27 [.inr (.inr (q3.2.2.2.1 x0 2)), .inr (.inr (q3.2.2.2.1 x0 6))] q3.2).bind fun q4 => if (q4.2.1 x0).1 = 10 then if (q4.2.1 (q4.2.2.2.1 x0 6)).1 = 1 then if ((q4.2.1 (q4.2.2.2.1 (q4.2.2.2.1 x0 6) 0)).1 : Int) = 5 then (G 67 [.inr (.inr (q4.2.2.2.1 (q4.2.2.2.1 x0 6) 0)), .inl (zi_w ((σ.2.1 (σ.2.2.1 x0 6) 2) - 1))] q4.2).bind fun q5 => if (q5.2.1 x0).1 = 10 then if (q5.2.1 (q5.2.2.2.1 x0 6)).1 = 1 then if ((q5.2.1 (q5.2.2.2.1 (q5.2.2.2.1 x0 6) 1)).1 : Int) = 0 then (G 14 [.inr (.inr (q5.2.2.2.1 (q5.2.2.2.1 x0 6) 1)), .inl (zi_w ((σ.2.1 (σ.2.2.1 x0 6) 2) - 1))] q5.2).bind fun q6 => if (q6.2.1 x0).1 = 10 then if (q6.2.1 (q6.2.2.2.1 x0 6)).1 = 1 then let s7 : zM := zi_wr q6.2 (q6.2.2.2.1 x0 6) 2 (zi_w ((σ.2.1 (σ.2.2.1 x0 6) 2) - 1)); if (s7.1 x0).1 = 10 then if (s7.1 (s7.2.2.1 x0 6)).1 = 1 then let s8 : zM := zi_wr s7 (s7.2.2.1 x0 6) 3 q2.1; if ((s8.1 x0).1 : Int) = 10 then (G 125 [.inr (.inr x0)] s8).bind fun q9 => some (0, q9.2) else none else none else none else none else none else none else none else none else none else none else none else none else none else none) else none else none else none else none else none else none) else (some ((-2), q1.2)) else none else none else none) else none else none) := rfl
theorem zm_124 {d : Nat} {x0 : Int} {σ : zM} : zG (d + 1) 124 [.inr (.inr x0)] σ = ((fun (G : Nat → List zV → zM → zR) (K : Nat → zL → List zV → zM → zR) => if (σ.1 x0).1 = 10 then if (σ.1 (σ.2.2.1 x0 6)).1 = 1 then if ((zi_w ((σ.2.1 (σ.2.2.1 x0 6) 2) - 1)) : Int) < 0 then (some ((-4), σ)) else (if (σ.1 x0).1 = 10 then if (σ.1 (σ.2.2.1 x0 6)).1 = 1 then if ((σ.1 (σ.2.2.1 (σ.2.2.1 x0 6) 1)).1 : Int) = 0 then (G 8 [.inr (.inr (σ.2.2.1 (σ.2.2.1 x0 6) 1)), .inl (zi_w ((σ.2.1 (σ.2.2.1 x0 6) 2) - 1))] σ).bind fun q1 => if (q1.1 : Int) = 0 then (if (q1.2.1 x0).1 = 10 then if (q1.2.1 (q1.2.2.2.1 x0 6)).1 = 1 then if ((q1.2.1 (q1.2.2.2.1 (q1.2.2.2.1 x0 6) 0)).1 : Int) = 5 then (G 58 [.inr (.inr (q1.2.2.2.1 (q1.2.2.2.1 x0 6) 0)), .inl (zi_w ((σ.2.1 (σ.2.2.1 x0 6) 2) - 1))] q1.2).bind fun q2 => if (q2.2.1 x0).1 = 10 then if (q2.2.1 (q2.2.2.2.1 x0 6)).1 = 1 then if ((q2.2.1 (q2.2.2.2.1 (q2.2.2.2.1 x0 6) 0)).1 : Int) = 5 then (G 58 [.inr (.inr (q2.2.2.2.1 (q2.2.2.2.1 x0 6) 0)), .inl (zi_w ((zi_w ((σ.2.1 (σ.2.2.1 x0 6) 2) - 1)) + 1))] q2.2).bind fun q3 => if (40 : Int) < (zi_w (q2.1 + q3.1)) then (some ((-3), q3.2)) else (if (q3.2.1 x0).1 = 10 then if (q3.2.1 x0).1 = 10 then if ((q3.2.1 (q3.2.2.2.1 x0 2)).1 : Int) = 2 then (G 27 [.inr (.inr (q3.2.2.2.1 x0 2)), .inr (.inr (q3.2.2.2.1 x0 6))] q3.2).bind fun q4 => if (q4.2.1 x0).1 = 10 then if (q4.2.1 (q4.2.2.2.1 x0 6)).1 = 1 then if ((q4.2.1 (q4.2.2.2.1 (q4.2.2.2.1 x0 6) 0)).1 : Int) = 5 then (G 67 [.inr (.inr (q4.2.2.2.1 (q4.2.2.2.1 x0 6) 0)), .inl (zi_w ((σ.2.1 (σ.2.2.1 x0 6) 2) - 1))] q4.2).bind fun q5 => if (q5.2.1 x0).1 = 10 then if (q5.2.1 (q5.2.2.2.1 x0 6)).1 = 1 then if ((q5.2.1 (q5.2.2.2.1 (q5.2.2.2.1 x0 6) 1)).1 : Int) = 0 then (G 14 [.inr (.inr (q5.2.2.2.1 (q5.2.2.2.1 x0 6) 1)), .inl (zi_w ((σ.2.1 (σ.2.2.1 x0 6) 2) - 1))] q5.2).bind fun q6 => if (q6.2.1 x0).1 = 10 then if (q6.2.1 (q6.2.2.2.1 x0 6)).1 = 1 then let s7 : zM := zi_wr q6.2 (q6.2.2.2.1 x0 6) 2 (zi_w ((σ.2.1 (σ.2.2.1 x0 6) 2) - 1)); if (s7.1 x0).1 = 10 then if (s7.1 (s7.2.2.1 x0 6)).1 = 1 then let s8 : zM := zi_wr s7 (s7.2.2.1 x0 6) 3 q2.1; if ((s8.1 x0).1 : Int) = 10 then (G 125 [.inr (.inr x0)] s8).bind fun q9 => some (0, q9.2) else none else none else none else none else none else none else none else none else none else none else none else none else none else none) else none else none else none else none else none else none) else (some ((-2), q1.2)) else none else none else none) else none else none) (zG d) (zi_run zt_124 (zG d) 19999)) := (zG_eq zt_124 rfl rfl rfl).trans ze_124_0
-- FoldedRows.layAll()V
set_option maxRecDepth 20000 in
theorem ze_125_0 {G : Nat → List zV → zM → zR} {K : Nat → zL → List zV → zM → zR} {x0 : Int} {σ : zM} : zi_fr zt_125 G K 600 0 [some (.inr (.inr x0))] [] σ = (if (σ.1 x0).1 = 10 then if (σ.1 x0).1 = 10 then if (σ.1 (σ.2.2.1 x0 6)).1 = 1 then if (σ.1 x0).1 = 10 then if ((σ.1 (σ.2.2.1 x0 3)).1 : Int) = 6 then (G 78 [.inr (.inr (σ.2.2.1 x0 3)), .inr (.inr (σ.2.2.1 (σ.2.2.1 x0 6) 0)), .inr (.inr (σ.2.2.1 x0 1))] σ).bind fun q1 => if ((q1.2.1 x0).1 : Int) = 10 then (G 127 [.inr (.inr x0)] q1.2).bind fun q2 => some (0, q2.2) else none else none else none else none else none else none) := rfl
theorem zm_125 {d : Nat} {x0 : Int} {σ : zM} : zG (d + 1) 125 [.inr (.inr x0)] σ = ((fun (G : Nat → List zV → zM → zR) (K : Nat → zL → List zV → zM → zR) => if (σ.1 x0).1 = 10 then if (σ.1 x0).1 = 10 then if (σ.1 (σ.2.2.1 x0 6)).1 = 1 then if (σ.1 x0).1 = 10 then if ((σ.1 (σ.2.2.1 x0 3)).1 : Int) = 6 then (G 78 [.inr (.inr (σ.2.2.1 x0 3)), .inr (.inr (σ.2.2.1 (σ.2.2.1 x0 6) 0)), .inr (.inr (σ.2.2.1 x0 1))] σ).bind fun q1 => if ((q1.2.1 x0).1 : Int) = 10 then (G 127 [.inr (.inr x0)] q1.2).bind fun q2 => some (0, q2.2) else none else none else none else none else none else none) (zG d) (zi_run zt_125 (zG d) 19999)) := (zG_eq zt_125 rfl rfl rfl).trans ze_125_0
-- FoldedRows.layCaretLine()V
set_option maxRecDepth 20000 in
theorem ze_126_0 {G : Nat → List zV → zM → zR} {K : Nat → zL → List zV → zM → zR} {x0 : Int} {σ : zM} : zi_fr zt_126 G K 600 0 [some (.inr (.inr x0))] [] σ = (if (σ.1 x0).1 = 10 then if (σ.1 x0).1 = 10 then if (σ.1 (σ.2.2.1 x0 6)).1 = 1 then if ((σ.1 (σ.2.2.1 x0 3)).1 : Int) = 6 then (G 77 [.inr (.inr (σ.2.2.1 x0 3)), .inl (σ.2.1 (σ.2.2.1 x0 6) 2)] σ).bind fun q1 => if (q1.2.1 x0).1 = 10 then if (q1.2.1 (q1.2.2.2.1 x0 6)).1 = 1 then if (q1.2.1 x0).1 = 10 then if (q1.2.1 (q1.2.2.2.1 x0 6)).1 = 1 then if (q1.2.1 x0).1 = 10 then if ((q1.2.1 q1.1).1 : Int) = 4 then (G 34 [.inr (.inr q1.1), .inr (.inr (q1.2.2.2.1 (q1.2.2.2.1 x0 6) 0)), .inl (q1.2.2.1 (q1.2.2.2.1 x0 6) 2), .inr (.inr (q1.2.2.2.1 x0 1))] q1.2).bind fun q2 => if ((q2.2.1 x0).1 : Int) = 10 then (G 127 [.inr (.inr x0)] q2.2).bind fun q3 => some (0, q3.2) else none else none else none else none else none else none else none else none else none else none else none) := rfl
theorem zm_126 {d : Nat} {x0 : Int} {σ : zM} : zG (d + 1) 126 [.inr (.inr x0)] σ = ((fun (G : Nat → List zV → zM → zR) (K : Nat → zL → List zV → zM → zR) => if (σ.1 x0).1 = 10 then if (σ.1 x0).1 = 10 then if (σ.1 (σ.2.2.1 x0 6)).1 = 1 then if ((σ.1 (σ.2.2.1 x0 3)).1 : Int) = 6 then (G 77 [.inr (.inr (σ.2.2.1 x0 3)), .inl (σ.2.1 (σ.2.2.1 x0 6) 2)] σ).bind fun q1 => if (q1.2.1 x0).1 = 10 then if (q1.2.1 (q1.2.2.2.1 x0 6)).1 = 1 then if (q1.2.1 x0).1 = 10 then if (q1.2.1 (q1.2.2.2.1 x0 6)).1 = 1 then if (q1.2.1 x0).1 = 10 then if ((q1.2.1 q1.1).1 : Int) = 4 then (G 34 [.inr (.inr q1.1), .inr (.inr (q1.2.2.2.1 (q1.2.2.2.1 x0 6) 0)), .inl (q1.2.2.1 (q1.2.2.2.1 x0 6) 2), .inr (.inr (q1.2.2.2.1 x0 1))] q1.2).bind fun q2 => if ((q2.2.1 x0).1 : Int) = 10 then (G 127 [.inr (.inr x0)] q2.2).bind fun q3 => some (0, q3.2) else none else none else none else none else none else none else none else none else none else none else none) (zG d) (zi_run zt_126 (zG d) 19999)) := (zG_eq zt_126 rfl rfl rfl).trans ze_126_0
-- FoldedRows.settleCaret()V
set_option maxRecDepth 20000 in
theorem ze_127_0 {G : Nat → List zV → zM → zR} {K : Nat → zL → List zV → zM → zR} {x0 : Int} {σ : zM} : zi_fr zt_127 G K 600 0 [some (.inr (.inr x0)), none] [] σ = (if (σ.1 x0).1 = 10 then if (σ.1 x0).1 = 10 then if (σ.1 (σ.2.2.1 x0 6)).1 = 1 then if ((σ.1 (σ.2.2.1 x0 3)).1 : Int) = 6 then (G 77 [.inr (.inr (σ.2.2.1 x0 3)), .inl (σ.2.1 (σ.2.2.1 x0 6) 2)] σ).bind fun q1 => if (q1.2.1 x0).1 = 10 then if (q1.2.1 (q1.2.2.2.1 x0 6)).1 = 1 then if ((q1.2.1 q1.1).1 : Int) = 4 then (G 47 [.inr (.inr q1.1), .inl (q1.2.2.1 (q1.2.2.2.1 x0 6) 3)] q1.2).bind fun q2 => if (q2.2.1 x0).1 = 10 then if (q2.2.1 (q2.2.2.2.1 x0 6)).1 = 1 then if ((q2.2.1 x0).1 : Int) = 10 then (G 128 [.inr (.inr x0), .inl (q2.2.2.1 (q2.2.2.2.1 x0 6) 2), .inl q2.1] q2.2).bind fun q3 => some (0, q3.2) else none else none else none else none else none else none else none else none else none else none) := rfl
theorem zm_127 {d : Nat} {x0 : Int} {σ : zM} : zG (d + 1) 127 [.inr (.inr x0)] σ = ((fun (G : Nat → List zV → zM → zR) (K : Nat → zL → List zV → zM → zR) => if (σ.1 x0).1 = 10 then if (σ.1 x0).1 = 10 then if (σ.1 (σ.2.2.1 x0 6)).1 = 1 then if ((σ.1 (σ.2.2.1 x0 3)).1 : Int) = 6 then (G 77 [.inr (.inr (σ.2.2.1 x0 3)), .inl (σ.2.1 (σ.2.2.1 x0 6) 2)] σ).bind fun q1 => if (q1.2.1 x0).1 = 10 then if (q1.2.1 (q1.2.2.2.1 x0 6)).1 = 1 then if ((q1.2.1 q1.1).1 : Int) = 4 then (G 47 [.inr (.inr q1.1), .inl (q1.2.2.1 (q1.2.2.2.1 x0 6) 3)] q1.2).bind fun q2 => if (q2.2.1 x0).1 = 10 then if (q2.2.1 (q2.2.2.2.1 x0 6)).1 = 1 then if ((q2.2.1 x0).1 : Int) = 10 then (G 128 [.inr (.inr x0), .inl (q2.2.2.1 (q2.2.2.2.1 x0 6) 2), .inl q2.1] q2.2).bind fun q3 => some (0, q3.2) else none else none else none else none else none else none else none else none else none else none) (zG d) (zi_run zt_127 (zG d) 19999)) := (zG_eq zt_127 rfl rfl rfl).trans ze_127_0
-- FoldedRows.moveCaret(II)V
set_option maxRecDepth 20000 in
theorem ze_128_0 {G : Nat → List zV → zM → zR} {K : Nat → zL → List zV → zM → zR} {x0 x1 x2 : Int} {σ : zM} : zi_fr zt_128 G K 600 0 [some (.inr (.inr x0)), some (.inl x1), some (.inl x2)] [] σ = (if (σ.1 x0).1 = 10 then if (σ.1 (σ.2.2.1 x0 6)).1 = 1 then let s1 : zM := zi_wr σ (σ.2.2.1 x0 6) 2 x1; if (s1.1 x0).1 = 10 then if (s1.1 (s1.2.2.1 x0 6)).1 = 1 then let s2 : zM := zi_wr s1 (s1.2.2.1 x0 6) 3 x2; if ((s2.1 x0).1 : Int) = 10 then (G 130 [.inr (.inr x0)] s2).bind fun q3 => if (q3.2.1 x0).1 = 10 then let s4 : zM := zi_wr q3.2 x0 8 q3.1; some (0, s4) else none else none else none else none else none else none) := rfl
theorem zm_128 {d : Nat} {x0 x1 x2 : Int} {σ : zM} : zG (d + 1) 128 [.inr (.inr x0), .inl x1, .inl x2] σ = ((fun (G : Nat → List zV → zM → zR) (K : Nat → zL → List zV → zM → zR) => if (σ.1 x0).1 = 10 then if (σ.1 (σ.2.2.1 x0 6)).1 = 1 then let s1 : zM := zi_wr σ (σ.2.2.1 x0 6) 2 x1; if (s1.1 x0).1 = 10 then if (s1.1 (s1.2.2.1 x0 6)).1 = 1 then let s2 : zM := zi_wr s1 (s1.2.2.1 x0 6) 3 x2; if ((s2.1 x0).1 : Int) = 10 then (G 130 [.inr (.inr x0)] s2).bind fun q3 => if (q3.2.1 x0).1 = 10 then let s4 : zM := zi_wr q3.2 x0 8 q3.1; some (0, s4) else none else none else none else none else none else none) (zG d) (zi_run zt_128 (zG d) 19999)) := (zG_eq zt_128 rfl rfl rfl).trans ze_128_0
-- FoldedRows.caretRow()I
set_option maxRecDepth 20000 in
theorem ze_129_0 {G : Nat → List zV → zM → zR} {K : Nat → zL → List zV → zM → zR} {x0 : Int} {σ : zM} : zi_fr zt_129 G K 600 0 [some (.inr (.inr x0))] [] σ = (if (σ.1 x0).1 = 10 then if (σ.1 x0).1 = 10 then if (σ.1 x0).1 = 10 then if (σ.1 (σ.2.2.1 x0 6)).1 = 1 then if (σ.1 x0).1 = 10 then if (σ.1 (σ.2.2.1 x0 6)).1 = 1 then if ((σ.1 (σ.2.2.1 x0 3)).1 : Int) = 6 then (G 81 [.inr (.inr (σ.2.2.1 x0 3)), .inr (.inr (σ.2.2.1 x0 6)), .inl (σ.2.1 (σ.2.2.1 x0 6) 2), .inl (σ.2.1 (σ.2.2.1 x0 6) 3)] σ).bind fun q1 => some (q1.1, q1.2) else none else none else none else none else none else none else none) := rfl
theorem zm_129 {d : Nat} {x0 : Int} {σ : zM} : zG (d + 1) 129 [.inr (.inr x0)] σ = ((fun (G : Nat → List zV → zM → zR) (K : Nat → zL → List zV → zM → zR) => if (σ.1 x0).1 = 10 then if (σ.1 x0).1 = 10 then if (σ.1 x0).1 = 10 then if (σ.1 (σ.2.2.1 x0 6)).1 = 1 then if (σ.1 x0).1 = 10 then if (σ.1 (σ.2.2.1 x0 6)).1 = 1 then if ((σ.1 (σ.2.2.1 x0 3)).1 : Int) = 6 then (G 81 [.inr (.inr (σ.2.2.1 x0 3)), .inr (.inr (σ.2.2.1 x0 6)), .inl (σ.2.1 (σ.2.2.1 x0 6) 2), .inl (σ.2.1 (σ.2.2.1 x0 6) 3)] σ).bind fun q1 => some (q1.1, q1.2) else none else none else none else none else none else none else none) (zG d) (zi_run zt_129 (zG d) 19999)) := (zG_eq zt_129 rfl rfl rfl).trans ze_129_0
-- FoldedRows.caretColumn()I
set_option maxRecDepth 20000 in
theorem ze_130_0 {G : Nat → List zV → zM → zR} {K : Nat → zL → List zV → zM → zR} {x0 : Int} {σ : zM} : zi_fr zt_130 G K 600 0 [some (.inr (.inr x0))] [] σ = (if (σ.1 x0).1 = 10 then if (σ.1 x0).1 = 10 then if (σ.1 (σ.2.2.1 x0 6)).1 = 1 then if ((σ.1 (σ.2.2.1 x0 3)).1 : Int) = 6 then (G 77 [.inr (.inr (σ.2.2.1 x0 3)), .inl (σ.2.1 (σ.2.2.1 x0 6) 2)] σ).bind fun q1 => if (q1.2.1 x0).1 = 10 then if (q1.2.1 (q1.2.2.2.1 x0 6)).1 = 1 then if ((q1.2.1 q1.1).1 : Int) = 4 then (G 41 [.inr (.inr q1.1), .inl (q1.2.2.1 (q1.2.2.2.1 x0 6) 3)] q1.2).bind fun q2 => some (q2.1, q2.2) else none else none else none else none else none else none else none) := rfl
theorem zm_130 {d : Nat} {x0 : Int} {σ : zM} : zG (d + 1) 130 [.inr (.inr x0)] σ = ((fun (G : Nat → List zV → zM → zR) (K : Nat → zL → List zV → zM → zR) => if (σ.1 x0).1 = 10 then if (σ.1 x0).1 = 10 then if (σ.1 (σ.2.2.1 x0 6)).1 = 1 then if ((σ.1 (σ.2.2.1 x0 3)).1 : Int) = 6 then (G 77 [.inr (.inr (σ.2.2.1 x0 3)), .inl (σ.2.1 (σ.2.2.1 x0 6) 2)] σ).bind fun q1 => if (q1.2.1 x0).1 = 10 then if (q1.2.1 (q1.2.2.2.1 x0 6)).1 = 1 then if ((q1.2.1 q1.1).1 : Int) = 4 then (G 41 [.inr (.inr q1.1), .inl (q1.2.2.1 (q1.2.2.2.1 x0 6) 3)] q1.2).bind fun q2 => some (q2.1, q2.2) else none else none else none else none else none else none else none) (zG d) (zi_run zt_130 (zG d) 19999)) := (zG_eq zt_130 rfl rfl rfl).trans ze_130_0
-- FoldedRows.imageCount()I
set_option maxRecDepth 20000 in
theorem ze_131_0 {G : Nat → List zV → zM → zR} {K : Nat → zL → List zV → zM → zR} {x0 : Int} {σ : zM} : zi_fr zt_131 G K 600 0 [some (.inr (.inr x0)), none, none, none] [] σ = (K 4 [some (.inr (.inr x0)), some (.inl 0), some (.inl 0), none] [] σ) := rfl
theorem zm_131 {d : Nat} {x0 : Int} {σ : zM} : zG (d + 1) 131 [.inr (.inr x0)] σ = ((fun (G : Nat → List zV → zM → zR) (K : Nat → zL → List zV → zM → zR) => K 4 [some (.inr (.inr x0)), some (.inl 0), some (.inl 0), none] [] σ) (zG d) (zi_run zt_131 (zG d) 19999)) := (zG_eq zt_131 rfl rfl rfl).trans ze_131_0
set_option maxRecDepth 20000 in
theorem ze_131_4 {G : Nat → List zV → zM → zR} {K : Nat → zL → List zV → zM → zR} {x0 x1 x2 : Int} {σ : zM} : zi_fr zt_131 G K 600 4 [some (.inr (.inr x0)), some (.inl x1), some (.inl x2), none] [] σ = (if (x2 : Int) < 2 then (if ((σ.1 x0).1 : Int) = 10 then (G 133 [.inr (.inr x0), .inl x2] σ).bind fun q1 => if q1.1 = 0 then (K 4 [some (.inr (.inr x0)), some (.inl x1), some (.inl (zi_w (x2 + 1))), none] [] q1.2) else (if (q1.2.1 q1.1).1 = 3 then if ((q1.2.2.1 q1.1 2) : Int) = 0 then (K 4 [some (.inr (.inr x0)), some (.inl x1), some (.inl (zi_w (x2 + 1))), none] [] q1.2) else (K 4 [some (.inr (.inr x0)), some (.inl (zi_w (x1 + 1))), some (.inl (zi_w (x2 + 1))), none] [] q1.2) else none) else none) else (some (x1, σ))) := rfl
theorem zk_131_4 {G : Nat → List zV → zM → zR} {n : Nat} {x0 x1 x2 : Int} {σ : zM} : zi_run zt_131 G (n + 1) 4 [some (.inr (.inr x0)), some (.inl x1), some (.inl x2), none] [] σ = ((fun (K : Nat → zL → List zV → zM → zR) => if (x2 : Int) < 2 then (if ((σ.1 x0).1 : Int) = 10 then (G 133 [.inr (.inr x0), .inl x2] σ).bind fun q1 => if q1.1 = 0 then (K 4 [some (.inr (.inr x0)), some (.inl x1), some (.inl (zi_w (x2 + 1))), none] [] q1.2) else (if (q1.2.1 q1.1).1 = 3 then if ((q1.2.2.1 q1.1 2) : Int) = 0 then (K 4 [some (.inr (.inr x0)), some (.inl x1), some (.inl (zi_w (x2 + 1))), none] [] q1.2) else (K 4 [some (.inr (.inr x0)), some (.inl (zi_w (x1 + 1))), some (.inl (zi_w (x2 + 1))), none] [] q1.2) else none) else none) else (some (x1, σ))) (zi_run zt_131 G n)) := zi_run_succ.trans ze_131_4
-- FoldedRows.forgetImage(I)V
set_option maxRecDepth 20000 in
theorem ze_132_0 {G : Nat → List zV → zM → zR} {K : Nat → zL → List zV → zM → zR} {x0 x1 : Int} {σ : zM} : zi_fr zt_132 G K 600 0 [some (.inr (.inr x0)), some (.inl x1), none] [] σ = (if ((σ.1 x0).1 : Int) = 10 then (G 133 [.inr (.inr x0), .inl x1] σ).bind fun q1 => if q1.1 = 0 then (some (0, q1.2)) else (if (q1.2.1 q1.1).1 = 3 ∧ ((0 : Int) = 0 ∨ (0 : Int) = 1) then let s2 : zM := zi_wr q1.2 q1.1 2 0; some (0, s2) else none) else none) := rfl
theorem zm_132 {d : Nat} {x0 x1 : Int} {σ : zM} : zG (d + 1) 132 [.inr (.inr x0), .inl x1] σ = ((fun (G : Nat → List zV → zM → zR) (K : Nat → zL → List zV → zM → zR) => if ((σ.1 x0).1 : Int) = 10 then (G 133 [.inr (.inr x0), .inl x1] σ).bind fun q1 => if q1.1 = 0 then (some (0, q1.2)) else (if (q1.2.1 q1.1).1 = 3 ∧ ((0 : Int) = 0 ∨ (0 : Int) = 1) then let s2 : zM := zi_wr q1.2 q1.1 2 0; some (0, s2) else none) else none) (zG d) (zi_run zt_132 (zG d) 19999)) := (zG_eq zt_132 rfl rfl rfl).trans ze_132_0
-- FoldedRows.imageOf(I)LFoldedRows$Image;
set_option maxRecDepth 20000 in
theorem ze_133_0 {G : Nat → List zV → zM → zR} {K : Nat → zL → List zV → zM → zR} {x0 x1 : Int} {σ : zM} : zi_fr zt_133 G K 600 0 [some (.inr (.inr x0)), some (.inl x1)] [] σ = (if (x1 : Int) < 0 then (some (0, σ)) else (if (σ.1 x0).1 = 10 then if (σ.1 (σ.2.2.1 x0 4)).1 = 15 then if (x1 : Int) < (σ.1 (σ.2.2.1 x0 4)).2 then (if (σ.1 x0).1 = 10 then if (σ.1 (σ.2.2.1 x0 4)).1 = 15 ∧ (0 : Int) ≤ x1 ∧ x1 < (σ.1 (σ.2.2.1 x0 4)).2 then some ((σ.2.2.1 (σ.2.2.1 x0 4) x1), σ) else none else none) else (some (0, σ)) else none else none)) := rfl
theorem zm_133 {d : Nat} {x0 x1 : Int} {σ : zM} : zG (d + 1) 133 [.inr (.inr x0), .inl x1] σ = ((fun (G : Nat → List zV → zM → zR) (K : Nat → zL → List zV → zM → zR) => if (x1 : Int) < 0 then (some (0, σ)) else (if (σ.1 x0).1 = 10 then if (σ.1 (σ.2.2.1 x0 4)).1 = 15 then if (x1 : Int) < (σ.1 (σ.2.2.1 x0 4)).2 then (if (σ.1 x0).1 = 10 then if (σ.1 (σ.2.2.1 x0 4)).1 = 15 ∧ (0 : Int) ≤ x1 ∧ x1 < (σ.1 (σ.2.2.1 x0 4)).2 then some ((σ.2.2.1 (σ.2.2.1 x0 4) x1), σ) else none else none) else (some (0, σ)) else none else none)) (zG d) (zi_run zt_133 (zG d) 19999)) := (zG_eq zt_133 rfl rfl rfl).trans ze_133_0
-- FoldedRows.isWide(I)Z
set_option maxRecDepth 20000 in
theorem ze_134_0 {G : Nat → List zV → zM → zR} {K : Nat → zL → List zV → zM → zR} {x0 : Int} {σ : zM} : zi_fr zt_134 G K 600 0 [some (.inl x0)] [] σ = (if (x0 : Int) < 65 then (if (0 : Int) = 0 ∨ (0 : Int) = 1 then some (0, σ) else none) else (if (90 : Int) < x0 then (if (0 : Int) = 0 ∨ (0 : Int) = 1 then some (0, σ) else none) else (if (1 : Int) = 0 ∨ (1 : Int) = 1 then some (1, σ) else none))) := rfl
theorem zm_134 {d : Nat} {x0 : Int} {σ : zM} : zG (d + 1) 134 [.inl x0] σ = ((fun (G : Nat → List zV → zM → zR) (K : Nat → zL → List zV → zM → zR) => if (x0 : Int) < 65 then (if (0 : Int) = 0 ∨ (0 : Int) = 1 then some (0, σ) else none) else (if (90 : Int) < x0 then (if (0 : Int) = 0 ∨ (0 : Int) = 1 then some (0, σ) else none) else (if (1 : Int) = 0 ∨ (1 : Int) = 1 then some (1, σ) else none))) (zG d) (zi_run zt_134 (zG d) 19999)) := (zG_eq zt_134 rfl rfl rfl).trans ze_134_0
-- FoldedRows.isGap(I)Z
set_option maxRecDepth 20000 in
theorem ze_135_0 {G : Nat → List zV → zM → zR} {K : Nat → zL → List zV → zM → zR} {x0 : Int} {σ : zM} : zi_fr zt_135 G K 600 0 [some (.inl x0)] [] σ = (if (x0 : Int) = 32 then (if (1 : Int) = 0 ∨ (1 : Int) = 1 then some (1, σ) else none) else (if (x0 : Int) = 9 then (if (1 : Int) = 0 ∨ (1 : Int) = 1 then some (1, σ) else none) else (if (0 : Int) = 0 ∨ (0 : Int) = 1 then some (0, σ) else none))) := rfl
theorem zm_135 {d : Nat} {x0 : Int} {σ : zM} : zG (d + 1) 135 [.inl x0] σ = ((fun (G : Nat → List zV → zM → zR) (K : Nat → zL → List zV → zM → zR) => if (x0 : Int) = 32 then (if (1 : Int) = 0 ∨ (1 : Int) = 1 then some (1, σ) else none) else (if (x0 : Int) = 9 then (if (1 : Int) = 0 ∨ (1 : Int) = 1 then some (1, σ) else none) else (if (0 : Int) = 0 ∨ (0 : Int) = 1 then some (0, σ) else none))) (zG d) (zi_run zt_135 (zG d) 19999)) := (zG_eq zt_135 rfl rfl rfl).trans ze_135_0
-- FoldedRows.isSign(I)Z
set_option maxRecDepth 20000 in
theorem ze_136_0 {G : Nat → List zV → zM → zR} {K : Nat → zL → List zV → zM → zR} {x0 : Int} {σ : zM} : zi_fr zt_136 G K 600 0 [some (.inl x0)] [] σ = (if (x0 : Int) < 97 then (K 12 [some (.inl x0)] [] σ) else (if (122 : Int) < x0 then (K 12 [some (.inl x0)] [] σ) else (if (1 : Int) = 0 ∨ (1 : Int) = 1 then some (1, σ) else none))) := rfl
theorem zm_136 {d : Nat} {x0 : Int} {σ : zM} : zG (d + 1) 136 [.inl x0] σ = ((fun (G : Nat → List zV → zM → zR) (K : Nat → zL → List zV → zM → zR) => if (x0 : Int) < 97 then (K 12 [some (.inl x0)] [] σ) else (if (122 : Int) < x0 then (K 12 [some (.inl x0)] [] σ) else (if (1 : Int) = 0 ∨ (1 : Int) = 1 then some (1, σ) else none))) (zG d) (zi_run zt_136 (zG d) 19999)) := (zG_eq zt_136 rfl rfl rfl).trans ze_136_0
set_option maxRecDepth 20000 in
theorem ze_136_12 {G : Nat → List zV → zM → zR} {K : Nat → zL → List zV → zM → zR} {x0 : Int} {σ : zM} : zi_fr zt_136 G K 600 12 [some (.inl x0)] [] σ = ((G 134 [.inl x0] σ).bind fun q1 => if (q1.1 : Int) = 0 then ((G 135 [.inl x0] q1.2).bind fun q2 => if (q2.1 : Int) = 0 then (if (x0 : Int) = 45 then (if (1 : Int) = 0 ∨ (1 : Int) = 1 then some (1, q2.2) else none) else (if (x0 : Int) = 126 then (if (1 : Int) = 0 ∨ (1 : Int) = 1 then some (1, q2.2) else none) else (if (0 : Int) = 0 ∨ (0 : Int) = 1 then some (0, q2.2) else none))) else (if (1 : Int) = 0 ∨ (1 : Int) = 1 then some (1, q2.2) else none)) else (if (1 : Int) = 0 ∨ (1 : Int) = 1 then some (1, q1.2) else none)) := rfl
theorem zk_136_12 {G : Nat → List zV → zM → zR} {n : Nat} {x0 : Int} {σ : zM} : zi_run zt_136 G (n + 1) 12 [some (.inl x0)] [] σ = ((fun (K : Nat → zL → List zV → zM → zR) => (G 134 [.inl x0] σ).bind fun q1 => if (q1.1 : Int) = 0 then ((G 135 [.inl x0] q1.2).bind fun q2 => if (q2.1 : Int) = 0 then (if (x0 : Int) = 45 then (if (1 : Int) = 0 ∨ (1 : Int) = 1 then some (1, q2.2) else none) else (if (x0 : Int) = 126 then (if (1 : Int) = 0 ∨ (1 : Int) = 1 then some (1, q2.2) else none) else (if (0 : Int) = 0 ∨ (0 : Int) = 1 then some (0, q2.2) else none))) else (if (1 : Int) = 0 ∨ (1 : Int) = 1 then some (1, q2.2) else none)) else (if (1 : Int) = 0 ∨ (1 : Int) = 1 then some (1, q1.2) else none)) (zi_run zt_136 G n)) := zi_run_succ.trans ze_136_12
-- FoldedRows.letsBreakBehind(I)Z
set_option maxRecDepth 20000 in
theorem ze_137_0 {G : Nat → List zV → zM → zR} {K : Nat → zL → List zV → zM → zR} {x0 : Int} {σ : zM} : zi_fr zt_137 G K 600 0 [some (.inl x0)] [] σ = ((G 135 [.inl x0] σ).bind fun q1 => if (q1.1 : Int) = 0 then ((G 134 [.inl x0] q1.2).bind fun q2 => if (q2.1 : Int) = 0 then (if (x0 : Int) = 45 then (if (1 : Int) = 0 ∨ (1 : Int) = 1 then some (1, q2.2) else none) else (if (0 : Int) = 0 ∨ (0 : Int) = 1 then some (0, q2.2) else none)) else (if (1 : Int) = 0 ∨ (1 : Int) = 1 then some (1, q2.2) else none)) else (if (1 : Int) = 0 ∨ (1 : Int) = 1 then some (1, q1.2) else none)) := rfl
theorem zm_137 {d : Nat} {x0 : Int} {σ : zM} : zG (d + 1) 137 [.inl x0] σ = ((fun (G : Nat → List zV → zM → zR) (K : Nat → zL → List zV → zM → zR) => (G 135 [.inl x0] σ).bind fun q1 => if (q1.1 : Int) = 0 then ((G 134 [.inl x0] q1.2).bind fun q2 => if (q2.1 : Int) = 0 then (if (x0 : Int) = 45 then (if (1 : Int) = 0 ∨ (1 : Int) = 1 then some (1, q2.2) else none) else (if (0 : Int) = 0 ∨ (0 : Int) = 1 then some (0, q2.2) else none)) else (if (1 : Int) = 0 ∨ (1 : Int) = 1 then some (1, q2.2) else none)) else (if (1 : Int) = 0 ∨ (1 : Int) = 1 then some (1, q1.2) else none)) (zG d) (zi_run zt_137 (zG d) 19999)) := (zG_eq zt_137 rfl rfl rfl).trans ze_137_0
end
section
/-! stretches of code as plain functions -/
-- FoldedRowsLaw.part(II)I
set_option maxRecDepth 20000 in
theorem ze_138_0 {G : Nat → List zV → zM → zR} {K : Nat → zL → List zV → zM → zR} {x0 x1 : Int} {σ : zM} : zi_fr zt_138 G K 600 0 [some (.inl x0), some (.inl x1)] [] σ = (if (x1 : Int) = 0 then none else some ((zi_rem (zi_and x0 2147483647) x1), σ)) := rfl
theorem zm_138 {d : Nat} {x0 x1 : Int} {σ : zM} : zG (d + 1) 138 [.inl x0, .inl x1] σ = ((fun (G : Nat → List zV → zM → zR) (K : Nat → zL → List zV → zM → zR) => if (x1 : Int) = 0 then none else some ((zi_rem (zi_and x0 2147483647) x1), σ)) (zG d) (zi_run zt_138 (zG d) 19999)) := (zG_eq zt_138 rfl rfl rfl).trans ze_138_0
-- FoldedRowsLaw.cell([II)I
set_option maxRecDepth 20000 in
theorem ze_139_0 {G : Nat → List zV → zM → zR} {K : Nat → zL → List zV → zM → zR} {x0 x1 : Int} {σ : zM} : zi_fr zt_139 G K 600 0 [some (.inr (.inr x0)), some (.inl x1)] [] σ = (if (σ.1 x0).1 = 18 then if ((σ.1 x0).2 : Int) = 0 then (some ((zi_w ((zi_w (7919 * x1)) + 3)), σ)) else (if (σ.1 x0).1 = 18 then if ((σ.1 x0).2 : Int) = 0 then none else if (σ.1 x0).1 = 18 ∧ (0 : Int) ≤ (zi_rem x1 (σ.1 x0).2) ∧ (zi_rem x1 (σ.1 x0).2) < (σ.1 x0).2 then if (7 : Int) = 0 then none else if (σ.1 x0).1 = 18 then if ((σ.1 x0).2 : Int) = 0 then none else some ((zi_xor (zi_xor (zi_shr (σ.2.1 x0 (zi_rem x1 (σ.1 x0).2)) (zi_rem x1 7)) (zi_w ((zi_div x1 (σ.1 x0).2) * 31))) (zi_w (x1 * 2654435))), σ) else none else none else none) else none) := rfl
theorem zm_139 {d : Nat} {x0 x1 : Int} {σ : zM} : zG (d + 1) 139 [.inr (.inr x0), .inl x1] σ = ((fun (G : Nat → List zV → zM → zR) (K : Nat → zL → List zV → zM → zR) => if (σ.1 x0).1 = 18 then if ((σ.1 x0).2 : Int) = 0 then (some ((zi_w ((zi_w (7919 * x1)) + 3)), σ)) else (if (σ.1 x0).1 = 18 then if ((σ.1 x0).2 : Int) = 0 then none else if (σ.1 x0).1 = 18 ∧ (0 : Int) ≤ (zi_rem x1 (σ.1 x0).2) ∧ (zi_rem x1 (σ.1 x0).2) < (σ.1 x0).2 then if (7 : Int) = 0 then none else if (σ.1 x0).1 = 18 then if ((σ.1 x0).2 : Int) = 0 then none else some ((zi_xor (zi_xor (zi_shr (σ.2.1 x0 (zi_rem x1 (σ.1 x0).2)) (zi_rem x1 7)) (zi_w ((zi_div x1 (σ.1 x0).2) * 31))) (zi_w (x1 * 2654435))), σ) else none else none else none) else none) (zG d) (zi_run zt_139 (zG d) 19999)) := (zG_eq zt_139 rfl rfl rfl).trans ze_139_0
-- FoldedRowsLaw.signOf(I)I
set_option maxRecDepth 20000 in
theorem ze_140_0 {G : Nat → List zV → zM → zR} {K : Nat → zL → List zV → zM → zR} {x0 : Int} {σ : zM} : zi_fr zt_140 G K 600 0 [some (.inl x0), none] [] σ = ((G 138 [.inl x0, .inl 12] σ).bind fun q1 => if (q1.1 : Int) < 3 then (some (32, q1.2)) else (if (q1.1 : Int) = 3 then (some (9, q1.2)) else (if (q1.1 : Int) < 6 then ((G 138 [.inl (zi_shr x0 4), .inl 26] q1.2).bind fun q3 => some ((zi_w (65 + q3.1)), q3.2)) else (if (q1.1 : Int) = 6 then (some (126, q1.2)) else (if (q1.1 : Int) = 7 then (some (45, q1.2)) else ((G 138 [.inl (zi_shr x0 4), .inl 26] q1.2).bind fun q2 => some ((zi_w (97 + q2.1)), q2.2))))))) := rfl
theorem zm_140 {d : Nat} {x0 : Int} {σ : zM} : zG (d + 1) 140 [.inl x0] σ = ((fun (G : Nat → List zV → zM → zR) (K : Nat → zL → List zV → zM → zR) => (G 138 [.inl x0, .inl 12] σ).bind fun q1 => if (q1.1 : Int) < 3 then (some (32, q1.2)) else (if (q1.1 : Int) = 3 then (some (9, q1.2)) else (if (q1.1 : Int) < 6 then ((G 138 [.inl (zi_shr x0 4), .inl 26] q1.2).bind fun q3 => some ((zi_w (65 + q3.1)), q3.2)) else (if (q1.1 : Int) = 6 then (some (126, q1.2)) else (if (q1.1 : Int) = 7 then (some (45, q1.2)) else ((G 138 [.inl (zi_shr x0 4), .inl 26] q1.2).bind fun q2 => some ((zi_w (97 + q2.1)), q2.2))))))) (zG d) (zi_run zt_140 (zG d) 19999)) := (zG_eq zt_140 rfl rfl rfl).trans ze_140_0
-- FoldedRowsLaw.put([JIII)V
set_option maxRecDepth 20000 in
theorem ze_141_0 {G : Nat → List zV → zM → zR} {K : Nat → zL → List zV → zM → zR} {x0 x1 x2 x3 : Int} {σ : zM} : zi_fr zt_141 G K 600 0 [some (.inr (.inr x0)), some (.inl x1), some (.inl x2), some (.inl x3), none] [] σ = (if (8 : Int) = 0 then none else if (σ.1 x0).1 = 0 ∧ (0 : Int) ≤ (zi_w ((zi_w (5 * x1)) + (zi_div x2 8))) ∧ (zi_w ((zi_w (5 * x1)) + (zi_div x2 8))) < (σ.1 x0).2 then if (8 : Int) = 0 then none else if (8 : Int) = 0 then none else if (σ.1 x0).1 = 0 ∧ (0 : Int) ≤ (zi_w ((zi_w (5 * x1)) + (zi_div x2 8))) ∧ (zi_w ((zi_w (5 * x1)) + (zi_div x2 8))) < (σ.1 x0).2 then let s1 : zM := zi_wr σ x0 (zi_w ((zi_w (5 * x1)) + (zi_div x2 8))) (zi_lor (zi_land (σ.2.1 x0 (zi_w ((zi_w (5 * x1)) + (zi_div x2 8)))) (zi_lxor (zi_lshl 255 (zi_w (8 * (zi_rem x2 8)))) (-1))) (zi_lshl x3 (zi_w (8 * (zi_rem x2 8))))); some (0, s1) else none else none) := rfl
theorem zm_141 {d : Nat} {x0 x1 x2 x3 : Int} {σ : zM} : zG (d + 1) 141 [.inr (.inr x0), .inl x1, .inl x2, .inl x3] σ = ((fun (G : Nat → List zV → zM → zR) (K : Nat → zL → List zV → zM → zR) => if (8 : Int) = 0 then none else if (σ.1 x0).1 = 0 ∧ (0 : Int) ≤ (zi_w ((zi_w (5 * x1)) + (zi_div x2 8))) ∧ (zi_w ((zi_w (5 * x1)) + (zi_div x2 8))) < (σ.1 x0).2 then if (8 : Int) = 0 then none else if (8 : Int) = 0 then none else if (σ.1 x0).1 = 0 ∧ (0 : Int) ≤ (zi_w ((zi_w (5 * x1)) + (zi_div x2 8))) ∧ (zi_w ((zi_w (5 * x1)) + (zi_div x2 8))) < (σ.1 x0).2 then let s1 : zM := zi_wr σ x0 (zi_w ((zi_w (5 * x1)) + (zi_div x2 8))) (zi_lor (zi_land (σ.2.1 x0 (zi_w ((zi_w (5 * x1)) + (zi_div x2 8)))) (zi_lxor (zi_lshl 255 (zi_w (8 * (zi_rem x2 8)))) (-1))) (zi_lshl x3 (zi_w (8 * (zi_rem x2 8))))); some (0, s1) else none else none) (zG d) (zi_run zt_141 (zG d) 19999)) := (zG_eq zt_141 rfl rfl rfl).trans ze_141_0
-- FoldedRowsLaw.cross(IIII)Z
set_option maxRecDepth 20000 in
theorem ze_142_0 {G : Nat → List zV → zM → zR} {K : Nat → zL → List zV → zM → zR} {x0 x1 x2 x3 : Int} {σ : zM} : zi_fr zt_142 G K 600 0 [some (.inl x0), some (.inl x1), some (.inl x2), some (.inl x3)] [] σ = (if (x3 : Int) < x0 then (if (0 : Int) = 0 ∨ (0 : Int) = 1 then some (0, σ) else none) else (if (x1 : Int) < x2 then (if (0 : Int) = 0 ∨ (0 : Int) = 1 then some (0, σ) else none) else (if (x2 : Int) < x0 then (K 20 [some (.inl x0), some (.inl x1), some (.inl x2), some (.inl x3)] [] σ) else (if (x1 : Int) < x3 then (K 20 [some (.inl x0), some (.inl x1), some (.inl x2), some (.inl x3)] [] σ) else (if (0 : Int) = 0 ∨ (0 : Int) = 1 then some (0, σ) else none))))) := rfl
theorem zm_142 {d : Nat} {x0 x1 x2 x3 : Int} {σ : zM} : zG (d + 1) 142 [.inl x0, .inl x1, .inl x2, .inl x3] σ = ((fun (G : Nat → List zV → zM → zR) (K : Nat → zL → List zV → zM → zR) => if (x3 : Int) < x0 then (if (0 : Int) = 0 ∨ (0 : Int) = 1 then some (0, σ) else none) else (if (x1 : Int) < x2 then (if (0 : Int) = 0 ∨ (0 : Int) = 1 then some (0, σ) else none) else (if (x2 : Int) < x0 then (K 20 [some (.inl x0), some (.inl x1), some (.inl x2), some (.inl x3)] [] σ) else (if (x1 : Int) < x3 then (K 20 [some (.inl x0), some (.inl x1), some (.inl x2), some (.inl x3)] [] σ) else (if (0 : Int) = 0 ∨ (0 : Int) = 1 then some (0, σ) else none))))) (zG d) (zi_run zt_142 (zG d) 19999)) := (zG_eq zt_142 rfl rfl rfl).trans ze_142_0
set_option maxRecDepth 20000 in
theorem ze_142_20 {G : Nat → List zV → zM → zR} {K : Nat → zL → List zV → zM → zR} {x0 x1 x2 x3 : Int} {σ : zM} : zi_fr zt_142 G K 600 20 [some (.inl x0), some (.inl x1), some (.inl x2), some (.inl x3)] [] σ = (if (x0 : Int) < x2 then (if (1 : Int) = 0 ∨ (1 : Int) = 1 then some (1, σ) else none) else (if (x3 : Int) < x1 then (if (1 : Int) = 0 ∨ (1 : Int) = 1 then some (1, σ) else none) else (if (0 : Int) = 0 ∨ (0 : Int) = 1 then some (0, σ) else none))) := rfl
theorem zk_142_20 {G : Nat → List zV → zM → zR} {n : Nat} {x0 x1 x2 x3 : Int} {σ : zM} : zi_run zt_142 G (n + 1) 20 [some (.inl x0), some (.inl x1), some (.inl x2), some (.inl x3)] [] σ = ((fun (K : Nat → zL → List zV → zM → zR) => if (x0 : Int) < x2 then (if (1 : Int) = 0 ∨ (1 : Int) = 1 then some (1, σ) else none) else (if (x3 : Int) < x1 then (if (1 : Int) = 0 ∨ (1 : Int) = 1 then some (1, σ) else none) else (if (0 : Int) = 0 ∨ (0 : Int) = 1 then some (0, σ) else none))) (zi_run zt_142 G n)) := zi_run_succ.trans ze_142_20
-- FoldedRowsLaw.clashes([IIII)Z
set_option maxRecDepth 20000 in
theorem ze_143_0 {G : Nat → List zV → zM → zR} {K : Nat → zL → List zV → zM → zR} {x0 x1 x2 x3 : Int} {σ : zM} : zi_fr zt_143 G K 600 0 [some (.inr (.inr x0)), some (.inl x1), some (.inl x2), some (.inl x3), none, none] [] σ = (K 6 [some (.inr (.inr x0)), some (.inl x1), some (.inl x2), some (.inl x3), some (.inl 0), some (.inl 0)] [] σ) := rfl
theorem zm_143 {d : Nat} {x0 x1 x2 x3 : Int} {σ : zM} : zG (d + 1) 143 [.inr (.inr x0), .inl x1, .inl x2, .inl x3] σ = ((fun (G : Nat → List zV → zM → zR) (K : Nat → zL → List zV → zM → zR) => K 6 [some (.inr (.inr x0)), some (.inl x1), some (.inl x2), some (.inl x3), some (.inl 0), some (.inl 0)] [] σ) (zG d) (zi_run zt_143 (zG d) 19999)) := (zG_eq zt_143 rfl rfl rfl).trans ze_143_0
set_option maxRecDepth 20000 in
theorem ze_143_6 {G : Nat → List zV → zM → zR} {K : Nat → zL → List zV → zM → zR} {x0 x1 x2 x3 x4 x5 : Int} {σ : zM} : zi_fr zt_143 G K 600 6 [some (.inr (.inr x0)), some (.inl x1), some (.inl x2), some (.inl x3), some (.inl x4), some (.inl x5)] [] σ = (if (x5 : Int) < x1 then (if (x4 : Int) = 0 then (if (σ.1 x0).1 = 12 ∧ (0 : Int) ≤ (zi_w (14 + (zi_w (3 * x5)))) ∧ (zi_w (14 + (zi_w (3 * x5)))) < (σ.1 x0).2 then if ((σ.2.1 x0 (zi_w (14 + (zi_w (3 * x5))))) : Int) = x2 then (if (σ.1 x0).1 = 12 ∧ (0 : Int) ≤ (zi_w (15 + (zi_w (3 * x5)))) ∧ (zi_w (15 + (zi_w (3 * x5)))) < (σ.1 x0).2 then if ((σ.2.1 x0 (zi_w (15 + (zi_w (3 * x5))))) : Int) = x3 then (K 6 [some (.inr (.inr x0)), some (.inl x1), some (.inl x2), some (.inl x3), some (.inl 1), some (.inl (zi_w (x5 + 1)))] [] σ) else (K 43 [some (.inr (.inr x0)), some (.inl x1), some (.inl x2), some (.inl x3), none, some (.inl x5)] [] σ) else none) else (K 43 [some (.inr (.inr x0)), some (.inl x1), some (.inl x2), some (.inl x3), none, some (.inl x5)] [] σ) else none) else (K 6 [some (.inr (.inr x0)), some (.inl x1), some (.inl x2), some (.inl x3), some (.inl 1), some (.inl (zi_w (x5 + 1)))] [] σ)) else (if (x4 : Int) = 0 ∨ (x4 : Int) = 1 then some (x4, σ) else none)) := rfl
theorem zk_143_6 {G : Nat → List zV → zM → zR} {n : Nat} {x0 x1 x2 x3 x4 x5 : Int} {σ : zM} : zi_run zt_143 G (n + 1) 6 [some (.inr (.inr x0)), some (.inl x1), some (.inl x2), some (.inl x3), some (.inl x4), some (.inl x5)] [] σ = ((fun (K : Nat → zL → List zV → zM → zR) => if (x5 : Int) < x1 then (if (x4 : Int) = 0 then (if (σ.1 x0).1 = 12 ∧ (0 : Int) ≤ (zi_w (14 + (zi_w (3 * x5)))) ∧ (zi_w (14 + (zi_w (3 * x5)))) < (σ.1 x0).2 then if ((σ.2.1 x0 (zi_w (14 + (zi_w (3 * x5))))) : Int) = x2 then (if (σ.1 x0).1 = 12 ∧ (0 : Int) ≤ (zi_w (15 + (zi_w (3 * x5)))) ∧ (zi_w (15 + (zi_w (3 * x5)))) < (σ.1 x0).2 then if ((σ.2.1 x0 (zi_w (15 + (zi_w (3 * x5))))) : Int) = x3 then (K 6 [some (.inr (.inr x0)), some (.inl x1), some (.inl x2), some (.inl x3), some (.inl 1), some (.inl (zi_w (x5 + 1)))] [] σ) else (K 43 [some (.inr (.inr x0)), some (.inl x1), some (.inl x2), some (.inl x3), none, some (.inl x5)] [] σ) else none) else (K 43 [some (.inr (.inr x0)), some (.inl x1), some (.inl x2), some (.inl x3), none, some (.inl x5)] [] σ) else none) else (K 6 [some (.inr (.inr x0)), some (.inl x1), some (.inl x2), some (.inl x3), some (.inl 1), some (.inl (zi_w (x5 + 1)))] [] σ)) else (if (x4 : Int) = 0 ∨ (x4 : Int) = 1 then some (x4, σ) else none)) (zi_run zt_143 G n)) := zi_run_succ.trans ze_143_6
set_option maxRecDepth 20000 in
theorem ze_143_43 {G : Nat → List zV → zM → zR} {K : Nat → zL → List zV → zM → zR} {x0 x1 x2 x3 x5 : Int} {σ : zM} : zi_fr zt_143 G K 600 43 [some (.inr (.inr x0)), some (.inl x1), some (.inl x2), some (.inl x3), none, some (.inl x5)] [] σ = (if (σ.1 x0).1 = 12 ∧ (0 : Int) ≤ (zi_w (14 + (zi_w (3 * x5)))) ∧ (zi_w (14 + (zi_w (3 * x5)))) < (σ.1 x0).2 then if (σ.1 x0).1 = 12 ∧ (0 : Int) ≤ (zi_w (15 + (zi_w (3 * x5)))) ∧ (zi_w (15 + (zi_w (3 * x5)))) < (σ.1 x0).2 then (G 142 [.inl (σ.2.1 x0 (zi_w (14 + (zi_w (3 * x5))))), .inl (σ.2.1 x0 (zi_w (15 + (zi_w (3 * x5))))), .inl x2, .inl x3] σ).bind fun q1 => if (q1.1 : Int) = 0 then (K 6 [some (.inr (.inr x0)), some (.inl x1), some (.inl x2), some (.inl x3), some (.inl 0), some (.inl (zi_w (x5 + 1)))] [] q1.2) else (K 6 [some (.inr (.inr x0)), some (.inl x1), some (.inl x2), some (.inl x3), some (.inl 1), some (.inl (zi_w (x5 + 1)))] [] q1.2) else none else none) := rfl
theorem zk_143_43 {G : Nat → List zV → zM → zR} {n : Nat} {x0 x1 x2 x3 x5 : Int} {σ : zM} : zi_run zt_143 G (n + 1) 43 [some (.inr (.inr x0)), some (.inl x1), some (.inl x2), some (.inl x3), none, some (.inl x5)] [] σ = ((fun (K : Nat → zL → List zV → zM → zR) => if (σ.1 x0).1 = 12 ∧ (0 : Int) ≤ (zi_w (14 + (zi_w (3 * x5)))) ∧ (zi_w (14 + (zi_w (3 * x5)))) < (σ.1 x0).2 then if (σ.1 x0).1 = 12 ∧ (0 : Int) ≤ (zi_w (15 + (zi_w (3 * x5)))) ∧ (zi_w (15 + (zi_w (3 * x5)))) < (σ.1 x0).2 then (G 142 [.inl (σ.2.1 x0 (zi_w (14 + (zi_w (3 * x5))))), .inl (σ.2.1 x0 (zi_w (15 + (zi_w (3 * x5))))), .inl x2, .inl x3] σ).bind fun q1 => if (q1.1 : Int) = 0 then (K 6 [some (.inr (.inr x0)), some (.inl x1), some (.inl x2), some (.inl x3), some (.inl 0), some (.inl (zi_w (x5 + 1)))] [] q1.2) else (K 6 [some (.inr (.inr x0)), some (.inl x1), some (.inl x2), some (.inl x3), some (.inl 1), some (.inl (zi_w (x5 + 1)))] [] q1.2) else none else none) (zi_run zt_143 G n)) := zi_run_succ.trans ze_143_43
-- FoldedRowsLaw.comes([III)I
set_option maxRecDepth 20000 in
theorem ze_144_0 {G : Nat → List zV → zM → zR} {K : Nat → zL → List zV → zM → zR} {x0 x1 x2 : Int} {σ : zM} : zi_fr zt_144 G K 600 0 [some (.inr (.inr x0)), some (.inl x1), some (.inl x2), none, none] [] σ = (if (σ.1 x0).1 = 12 ∧ (0 : Int) ≤ 13 ∧ 13 < (σ.1 x0).2 then K 5 [some (.inr (.inr x0)), some (.inl x1), some (.inl x2), some (.inl (σ.2.1 x0 13)), none] [] σ else none) := rfl
theorem zm_144 {d : Nat} {x0 x1 x2 : Int} {σ : zM} : zG (d + 1) 144 [.inr (.inr x0), .inl x1, .inl x2] σ = ((fun (G : Nat → List zV → zM → zR) (K : Nat → zL → List zV → zM → zR) => if (σ.1 x0).1 = 12 ∧ (0 : Int) ≤ 13 ∧ 13 < (σ.1 x0).2 then K 5 [some (.inr (.inr x0)), some (.inl x1), some (.inl x2), some (.inl (σ.2.1 x0 13)), none] [] σ else none) (zG d) (zi_run zt_144 (zG d) 19999)) := (zG_eq zt_144 rfl rfl rfl).trans ze_144_0
set_option maxRecDepth 20000 in
theorem ze_144_5 {G : Nat → List zV → zM → zR} {K : Nat → zL → List zV → zM → zR} {x0 x1 x2 x3 : Int} {σ : zM} : zi_fr zt_144 G K 600 5 [some (.inr (.inr x0)), some (.inl x1), some (.inl x2), some (.inl x3), none] [] σ = (if (0 : Int) < x3 then (if (σ.1 x0).1 = 12 ∧ (0 : Int) ≤ (zi_w (11 + (zi_w (3 * x3)))) ∧ (zi_w (11 + (zi_w (3 * x3)))) < (σ.1 x0).2 then if (x1 : Int) < (σ.2.1 x0 (zi_w (11 + (zi_w (3 * x3))))) then (K 48 [some (.inr (.inr x0)), some (.inl x1), some (.inl x2), some (.inl x3), some (.inl 0)] [] σ) else (if (σ.1 x0).1 = 12 ∧ (0 : Int) ≤ (zi_w (11 + (zi_w (3 * x3)))) ∧ (zi_w (11 + (zi_w (3 * x3)))) < (σ.1 x0).2 then if ((σ.2.1 x0 (zi_w (11 + (zi_w (3 * x3))))) : Int) = x1 then (if (σ.1 x0).1 = 12 ∧ (0 : Int) ≤ (zi_w (12 + (zi_w (3 * x3)))) ∧ (zi_w (12 + (zi_w (3 * x3)))) < (σ.1 x0).2 then if ((σ.2.1 x0 (zi_w (12 + (zi_w (3 * x3))))) : Int) < x2 then (K 48 [some (.inr (.inr x0)), some (.inl x1), some (.inl x2), some (.inl x3), some (.inl 0)] [] σ) else (K 88 [some (.inr (.inr x0)), some (.inl x1), some (.inl x2), some (.inl x3), none] [] σ) else none) else (K 88 [some (.inr (.inr x0)), some (.inl x1), some (.inl x2), some (.inl x3), none] [] σ) else none) else none) else (K 88 [some (.inr (.inr x0)), some (.inl x1), some (.inl x2), some (.inl x3), none] [] σ)) := rfl
theorem zk_144_5 {G : Nat → List zV → zM → zR} {n : Nat} {x0 x1 x2 x3 : Int} {σ : zM} : zi_run zt_144 G (n + 1) 5 [some (.inr (.inr x0)), some (.inl x1), some (.inl x2), some (.inl x3), none] [] σ = ((fun (K : Nat → zL → List zV → zM → zR) => if (0 : Int) < x3 then (if (σ.1 x0).1 = 12 ∧ (0 : Int) ≤ (zi_w (11 + (zi_w (3 * x3)))) ∧ (zi_w (11 + (zi_w (3 * x3)))) < (σ.1 x0).2 then if (x1 : Int) < (σ.2.1 x0 (zi_w (11 + (zi_w (3 * x3))))) then (K 48 [some (.inr (.inr x0)), some (.inl x1), some (.inl x2), some (.inl x3), some (.inl 0)] [] σ) else (if (σ.1 x0).1 = 12 ∧ (0 : Int) ≤ (zi_w (11 + (zi_w (3 * x3)))) ∧ (zi_w (11 + (zi_w (3 * x3)))) < (σ.1 x0).2 then if ((σ.2.1 x0 (zi_w (11 + (zi_w (3 * x3))))) : Int) = x1 then (if (σ.1 x0).1 = 12 ∧ (0 : Int) ≤ (zi_w (12 + (zi_w (3 * x3)))) ∧ (zi_w (12 + (zi_w (3 * x3)))) < (σ.1 x0).2 then if ((σ.2.1 x0 (zi_w (12 + (zi_w (3 * x3))))) : Int) < x2 then (K 48 [some (.inr (.inr x0)), some (.inl x1), some (.inl x2), some (.inl x3), some (.inl 0)] [] σ) else (K 88 [some (.inr (.inr x0)), some (.inl x1), some (.inl x2), some (.inl x3), none] [] σ) else none) else (K 88 [some (.inr (.inr x0)), some (.inl x1), some (.inl x2), some (.inl x3), none] [] σ) else none) else none) else (K 88 [some (.inr (.inr x0)), some (.inl x1), some (.inl x2), some (.inl x3), none] [] σ)) (zi_run zt_144 G n)) := zi_run_succ.trans ze_144_5
set_option maxRecDepth 20000 in
theorem ze_144_48 {G : Nat → List zV → zM → zR} {K : Nat → zL → List zV → zM → zR} {x0 x1 x2 x3 x4 : Int} {σ : zM} : zi_fr zt_144 G K 600 48 [some (.inr (.inr x0)), some (.inl x1), some (.inl x2), some (.inl x3), some (.inl x4)] [] σ = (if (x4 : Int) < 3 then (if (σ.1 x0).1 = 12 ∧ (0 : Int) ≤ (zi_w ((zi_w (11 + (zi_w (3 * x3)))) + x4)) ∧ (zi_w ((zi_w (11 + (zi_w (3 * x3)))) + x4)) < (σ.1 x0).2 then if (σ.1 x0).1 = 12 ∧ (0 : Int) ≤ (zi_w ((zi_w (14 + (zi_w (3 * x3)))) + x4)) ∧ (zi_w ((zi_w (14 + (zi_w (3 * x3)))) + x4)) < (σ.1 x0).2 then let s1 : zM := zi_wr σ x0 (zi_w ((zi_w (14 + (zi_w (3 * x3)))) + x4)) (σ.2.1 x0 (zi_w ((zi_w (11 + (zi_w (3 * x3)))) + x4))); K 48 [some (.inr (.inr x0)), some (.inl x1), some (.inl x2), some (.inl x3), some (.inl (zi_w (x4 + 1)))] [] s1 else none else none) else (K 5 [some (.inr (.inr x0)), some (.inl x1), some (.inl x2), some (.inl (zi_w (x3 + (-1)))), none] [] σ)) := rfl
theorem zk_144_48 {G : Nat → List zV → zM → zR} {n : Nat} {x0 x1 x2 x3 x4 : Int} {σ : zM} : zi_run zt_144 G (n + 1) 48 [some (.inr (.inr x0)), some (.inl x1), some (.inl x2), some (.inl x3), some (.inl x4)] [] σ = ((fun (K : Nat → zL → List zV → zM → zR) => if (x4 : Int) < 3 then (if (σ.1 x0).1 = 12 ∧ (0 : Int) ≤ (zi_w ((zi_w (11 + (zi_w (3 * x3)))) + x4)) ∧ (zi_w ((zi_w (11 + (zi_w (3 * x3)))) + x4)) < (σ.1 x0).2 then if (σ.1 x0).1 = 12 ∧ (0 : Int) ≤ (zi_w ((zi_w (14 + (zi_w (3 * x3)))) + x4)) ∧ (zi_w ((zi_w (14 + (zi_w (3 * x3)))) + x4)) < (σ.1 x0).2 then let s1 : zM := zi_wr σ x0 (zi_w ((zi_w (14 + (zi_w (3 * x3)))) + x4)) (σ.2.1 x0 (zi_w ((zi_w (11 + (zi_w (3 * x3)))) + x4))); K 48 [some (.inr (.inr x0)), some (.inl x1), some (.inl x2), some (.inl x3), some (.inl (zi_w (x4 + 1)))] [] s1 else none else none) else (K 5 [some (.inr (.inr x0)), some (.inl x1), some (.inl x2), some (.inl (zi_w (x3 + (-1)))), none] [] σ)) (zi_run zt_144 G n)) := zi_run_succ.trans ze_144_48
set_option maxRecDepth 20000 in
theorem ze_144_88 {G : Nat → List zV → zM → zR} {K : Nat → zL → List zV → zM → zR} {x0 x1 x2 x3 : Int} {σ : zM} : zi_fr zt_144 G K 600 88 [some (.inr (.inr x0)), some (.inl x1), some (.inl x2), some (.inl x3), none] [] σ = (if (σ.1 x0).1 = 12 ∧ (0 : Int) ≤ (zi_w (14 + (zi_w (3 * x3)))) ∧ (zi_w (14 + (zi_w (3 * x3)))) < (σ.1 x0).2 then let s1 : zM := zi_wr σ x0 (zi_w (14 + (zi_w (3 * x3)))) x1; if (s1.1 x0).1 = 12 ∧ (0 : Int) ≤ (zi_w (15 + (zi_w (3 * x3)))) ∧ (zi_w (15 + (zi_w (3 * x3)))) < (s1.1 x0).2 then let s2 : zM := zi_wr s1 x0 (zi_w (15 + (zi_w (3 * x3)))) x2; if (s2.1 x0).1 = 12 ∧ (0 : Int) ≤ (zi_w (16 + (zi_w (3 * x3)))) ∧ (zi_w (16 + (zi_w (3 * x3)))) < (s2.1 x0).2 then let s3 : zM := zi_wr s2 x0 (zi_w (16 + (zi_w (3 * x3)))) 0; if (s3.1 x0).1 = 12 ∧ (0 : Int) ≤ 13 ∧ 13 < (s3.1 x0).2 then if (s3.1 x0).1 = 12 ∧ (0 : Int) ≤ 13 ∧ 13 < (s3.1 x0).2 then let s4 : zM := zi_wr s3 x0 13 (zi_w ((s3.2.1 x0 13) + 1)); some (x3, s4) else none else none else none else none else none) := rfl
theorem zk_144_88 {G : Nat → List zV → zM → zR} {n : Nat} {x0 x1 x2 x3 : Int} {σ : zM} : zi_run zt_144 G (n + 1) 88 [some (.inr (.inr x0)), some (.inl x1), some (.inl x2), some (.inl x3), none] [] σ = ((fun (K : Nat → zL → List zV → zM → zR) => if (σ.1 x0).1 = 12 ∧ (0 : Int) ≤ (zi_w (14 + (zi_w (3 * x3)))) ∧ (zi_w (14 + (zi_w (3 * x3)))) < (σ.1 x0).2 then let s1 : zM := zi_wr σ x0 (zi_w (14 + (zi_w (3 * x3)))) x1; if (s1.1 x0).1 = 12 ∧ (0 : Int) ≤ (zi_w (15 + (zi_w (3 * x3)))) ∧ (zi_w (15 + (zi_w (3 * x3)))) < (s1.1 x0).2 then let s2 : zM := zi_wr s1 x0 (zi_w (15 + (zi_w (3 * x3)))) x2; if (s2.1 x0).1 = 12 ∧ (0 : Int) ≤ (zi_w (16 + (zi_w (3 * x3)))) ∧ (zi_w (16 + (zi_w (3 * x3)))) < (s2.1 x0).2 then let s3 : zM := zi_wr s2 x0 (zi_w (16 + (zi_w (3 * x3)))) 0; if (s3.1 x0).1 = 12 ∧ (0 : Int) ≤ 13 ∧ 13 < (s3.1 x0).2 then if (s3.1 x0).1 = 12 ∧ (0 : Int) ≤ 13 ∧ 13 < (s3.1 x0).2 then let s4 : zM := zi_wr s3 x0 13 (zi_w ((s3.2.1 x0 13) + 1)); some (x3, s4) else none else none else none else none else none) (zi_run zt_144 G n)) := zi_run_succ.trans ze_144_88
-- FoldedRowsLaw.tell(LFoldedRows;[J[I[II)Z
set_option maxRecDepth 20000 in
theorem ze_145_0 {G : Nat → List zV → zM → zR} {K : Nat → zL → List zV → zM → zR} {x0 x1 x2 x3 x4 : Int} {σ : zM} : zi_fr zt_145 G K 600 0 [some (.inr (.inr x0)), some (.inr (.inr x1)), some (.inr (.inr x2)), some (.inr (.inr x3)), some (.inl x4), none, none, none, none, none, none, none] [] σ = (K 3 [some (.inr (.inr x0)), some (.inr (.inr x1)), some (.inr (.inr x2)), some (.inr (.inr x3)), some (.inl x4), some (.inl 0), none, none, none, none, none, none] [] σ) := rfl
theorem zm_145 {d : Nat} {x0 x1 x2 x3 x4 : Int} {σ : zM} : zG (d + 1) 145 [.inr (.inr x0), .inr (.inr x1), .inr (.inr x2), .inr (.inr x3), .inl x4] σ = ((fun (G : Nat → List zV → zM → zR) (K : Nat → zL → List zV → zM → zR) => K 3 [some (.inr (.inr x0)), some (.inr (.inr x1)), some (.inr (.inr x2)), some (.inr (.inr x3)), some (.inl x4), some (.inl 0), none, none, none, none, none, none] [] σ) (zG d) (zi_run zt_145 (zG d) 19999)) := (zG_eq zt_145 rfl rfl rfl).trans ze_145_0
set_option maxRecDepth 20000 in
theorem ze_145_3 {G : Nat → List zV → zM → zR} {K : Nat → zL → List zV → zM → zR} {x0 x1 x2 x3 x4 x5 : Int} {σ : zM} : zi_fr zt_145 G K 600 3 [some (.inr (.inr x0)), some (.inr (.inr x1)), some (.inr (.inr x2)), some (.inr (.inr x3)), some (.inl x4), some (.inl x5), none, none, none, none, none, none] [] σ = (if (x5 : Int) < 60 then (if (σ.1 x1).1 = 0 ∧ (0 : Int) ≤ x5 ∧ x5 < (σ.1 x1).2 then let s1 : zM := zi_wr σ x1 x5 0; K 3 [some (.inr (.inr x0)), some (.inr (.inr x1)), some (.inr (.inr x2)), some (.inr (.inr x3)), some (.inl x4), some (.inl (zi_w (x5 + 1))), none, none, none, none, none, none] [] s1 else none) else (K 24 [some (.inr (.inr x0)), some (.inr (.inr x1)), some (.inr (.inr x2)), some (.inr (.inr x3)), some (.inl x4), some (.inl 0), none, none, none, none, none, none] [] σ)) := rfl
theorem zk_145_3 {G : Nat → List zV → zM → zR} {n : Nat} {x0 x1 x2 x3 x4 x5 : Int} {σ : zM} : zi_run zt_145 G (n + 1) 3 [some (.inr (.inr x0)), some (.inr (.inr x1)), some (.inr (.inr x2)), some (.inr (.inr x3)), some (.inl x4), some (.inl x5), none, none, none, none, none, none] [] σ = ((fun (K : Nat → zL → List zV → zM → zR) => if (x5 : Int) < 60 then (if (σ.1 x1).1 = 0 ∧ (0 : Int) ≤ x5 ∧ x5 < (σ.1 x1).2 then let s1 : zM := zi_wr σ x1 x5 0; K 3 [some (.inr (.inr x0)), some (.inr (.inr x1)), some (.inr (.inr x2)), some (.inr (.inr x3)), some (.inl x4), some (.inl (zi_w (x5 + 1))), none, none, none, none, none, none] [] s1 else none) else (K 24 [some (.inr (.inr x0)), some (.inr (.inr x1)), some (.inr (.inr x2)), some (.inr (.inr x3)), some (.inl x4), some (.inl 0), none, none, none, none, none, none] [] σ)) (zi_run zt_145 G n)) := zi_run_succ.trans ze_145_3
set_option maxRecDepth 20000 in
theorem ze_145_24 {G : Nat → List zV → zM → zR} {K : Nat → zL → List zV → zM → zR} {x0 x1 x2 x3 x4 x5 : Int} {σ : zM} : zi_fr zt_145 G K 600 24 [some (.inr (.inr x0)), some (.inr (.inr x1)), some (.inr (.inr x2)), some (.inr (.inr x3)), some (.inl x4), some (.inl x5), none, none, none, none, none, none] [] σ = (if (x5 : Int) < 40 then (if (σ.1 x2).1 = 12 ∧ (0 : Int) ≤ x5 ∧ x5 < (σ.1 x2).2 then let s4 : zM := zi_wr σ x2 x5 0; K 24 [some (.inr (.inr x0)), some (.inr (.inr x1)), some (.inr (.inr x2)), some (.inr (.inr x3)), some (.inl x4), some (.inl (zi_w (x5 + 1))), none, none, none, none, none, none] [] s4 else none) else ((G 139 [.inr (.inr x3), .inl x4] σ).bind fun q1 => (G 138 [.inl q1.1, .inl 7] q1.2).bind fun q2 => if (q2.2.1 x2).1 = 12 ∧ (0 : Int) ≤ 12 ∧ 12 < (q2.2.1 x2).2 then let s3 : zM := zi_wr q2.2 x2 12 (zi_w (1 + q2.1)); K 68 [some (.inr (.inr x0)), some (.inr (.inr x1)), some (.inr (.inr x2)), some (.inr (.inr x3)), some (.inl x4), some (.inl (-1)), some (.inl 1), some (.inl 0), none, none, none, none] [] s3 else none)) := rfl
theorem zk_145_24 {G : Nat → List zV → zM → zR} {n : Nat} {x0 x1 x2 x3 x4 x5 : Int} {σ : zM} : zi_run zt_145 G (n + 1) 24 [some (.inr (.inr x0)), some (.inr (.inr x1)), some (.inr (.inr x2)), some (.inr (.inr x3)), some (.inl x4), some (.inl x5), none, none, none, none, none, none] [] σ = ((fun (K : Nat → zL → List zV → zM → zR) => if (x5 : Int) < 40 then (if (σ.1 x2).1 = 12 ∧ (0 : Int) ≤ x5 ∧ x5 < (σ.1 x2).2 then let s4 : zM := zi_wr σ x2 x5 0; K 24 [some (.inr (.inr x0)), some (.inr (.inr x1)), some (.inr (.inr x2)), some (.inr (.inr x3)), some (.inl x4), some (.inl (zi_w (x5 + 1))), none, none, none, none, none, none] [] s4 else none) else ((G 139 [.inr (.inr x3), .inl x4] σ).bind fun q1 => (G 138 [.inl q1.1, .inl 7] q1.2).bind fun q2 => if (q2.2.1 x2).1 = 12 ∧ (0 : Int) ≤ 12 ∧ 12 < (q2.2.1 x2).2 then let s3 : zM := zi_wr q2.2 x2 12 (zi_w (1 + q2.1)); K 68 [some (.inr (.inr x0)), some (.inr (.inr x1)), some (.inr (.inr x2)), some (.inr (.inr x3)), some (.inl x4), some (.inl (-1)), some (.inl 1), some (.inl 0), none, none, none, none] [] s3 else none)) (zi_run zt_145 G n)) := zi_run_succ.trans ze_145_24
set_option maxRecDepth 20000 in
theorem ze_145_68 {G : Nat → List zV → zM → zR} {K : Nat → zL → List zV → zM → zR} {x0 x1 x2 x3 x4 x5 x6 x7 : Int} {σ : zM} : zi_fr zt_145 G K 600 68 [some (.inr (.inr x0)), some (.inr (.inr x1)), some (.inr (.inr x2)), some (.inr (.inr x3)), some (.inl x4), some (.inl x5), some (.inl x6), some (.inl x7), none, none, none, none] [] σ = (if (σ.1 x2).1 = 12 ∧ (0 : Int) ≤ 12 ∧ 12 < (σ.1 x2).2 then if (x7 : Int) < (σ.2.1 x2 12) then ((G 139 [.inr (.inr x3), .inl (zi_w ((zi_w (x4 + 1)) + x7))] σ).bind fun q4 => if (0 : Int) < x7 then (if (x6 : Int) = 0 then (K 116 [some (.inr (.inr x0)), some (.inr (.inr x1)), some (.inr (.inr x2)), some (.inr (.inr x3)), some (.inl x4), some (.inl x5), some (.inl 0), some (.inl x7), some (.inl q4.1), none, none, none] [] q4.2) else (if ((q4.2.1 x0).1 : Int) = 10 then (G 99 [.inr (.inr x0), .inl 10] q4.2).bind fun q5 => if (0 : Int) < q5.1 then (K 116 [some (.inr (.inr x0)), some (.inr (.inr x1)), some (.inr (.inr x2)), some (.inr (.inr x3)), some (.inl x4), some (.inl x5), some (.inl 1), some (.inl x7), some (.inl q4.1), none, none, none] [] q5.2) else (K 116 [some (.inr (.inr x0)), some (.inr (.inr x1)), some (.inr (.inr x2)), some (.inr (.inr x3)), some (.inl x4), some (.inl x5), some (.inl 0), some (.inl x7), some (.inl q4.1), none, none, none] [] q5.2) else none)) else (K 116 [some (.inr (.inr x0)), some (.inr (.inr x1)), some (.inr (.inr x2)), some (.inr (.inr x3)), some (.inl x4), some (.inl x5), some (.inl x6), some (.inl x7), some (.inl q4.1), none, none, none] [] q4.2)) else (if (x6 : Int) = 0 then (if (0 : Int) = 0 ∨ (0 : Int) = 1 then some (0, σ) else none) else (if ((σ.1 x0).1 : Int) = 10 then (G 100 [.inr (.inr x0)] σ).bind fun q1 => if (q1.2.1 x2).1 = 12 ∧ (0 : Int) ≤ 12 ∧ 12 < (q1.2.1 x2).2 then if (q1.1 : Int) = (q1.2.2.1 x2 12) then (if ((q1.2.1 x0).1 : Int) = 10 then (G 101 [.inr (.inr x0)] q1.2).bind fun q2 => if (q2.1 : Int) = 0 then (if ((q2.2.1 x0).1 : Int) = 10 then (G 102 [.inr (.inr x0), .inl 12] q2.2).bind fun q3 => if (q3.1 : Int) = 0 then (if (1 : Int) = 0 ∨ (1 : Int) = 1 then some (1, q3.2) else none) else (if (0 : Int) = 0 ∨ (0 : Int) = 1 then some (0, q3.2) else none) else none) else (if (0 : Int) = 0 ∨ (0 : Int) = 1 then some (0, q2.2) else none) else none) else (if (0 : Int) = 0 ∨ (0 : Int) = 1 then some (0, q1.2) else none) else none else none)) else none) := rfl
theorem zk_145_68 {G : Nat → List zV → zM → zR} {n : Nat} {x0 x1 x2 x3 x4 x5 x6 x7 : Int} {σ : zM} : zi_run zt_145 G (n + 1) 68 [some (.inr (.inr x0)), some (.inr (.inr x1)), some (.inr (.inr x2)), some (.inr (.inr x3)), some (.inl x4), some (.inl x5), some (.inl x6), some (.inl x7), none, none, none, none] [] σ = ((fun (K : Nat → zL → List zV → zM → zR) => if (σ.1 x2).1 = 12 ∧ (0 : Int) ≤ 12 ∧ 12 < (σ.1 x2).2 then if (x7 : Int) < (σ.2.1 x2 12) then ((G 139 [.inr (.inr x3), .inl (zi_w ((zi_w (x4 + 1)) + x7))] σ).bind fun q4 => if (0 : Int) < x7 then (if (x6 : Int) = 0 then (K 116 [some (.inr (.inr x0)), some (.inr (.inr x1)), some (.inr (.inr x2)), some (.inr (.inr x3)), some (.inl x4), some (.inl x5), some (.inl 0), some (.inl x7), some (.inl q4.1), none, none, none] [] q4.2) else (if ((q4.2.1 x0).1 : Int) = 10 then (G 99 [.inr (.inr x0), .inl 10] q4.2).bind fun q5 => if (0 : Int) < q5.1 then (K 116 [some (.inr (.inr x0)), some (.inr (.inr x1)), some (.inr (.inr x2)), some (.inr (.inr x3)), some (.inl x4), some (.inl x5), some (.inl 1), some (.inl x7), some (.inl q4.1), none, none, none] [] q5.2) else (K 116 [some (.inr (.inr x0)), some (.inr (.inr x1)), some (.inr (.inr x2)), some (.inr (.inr x3)), some (.inl x4), some (.inl x5), some (.inl 0), some (.inl x7), some (.inl q4.1), none, none, none] [] q5.2) else none)) else (K 116 [some (.inr (.inr x0)), some (.inr (.inr x1)), some (.inr (.inr x2)), some (.inr (.inr x3)), some (.inl x4), some (.inl x5), some (.inl x6), some (.inl x7), some (.inl q4.1), none, none, none] [] q4.2)) else (if (x6 : Int) = 0 then (if (0 : Int) = 0 ∨ (0 : Int) = 1 then some (0, σ) else none) else (if ((σ.1 x0).1 : Int) = 10 then (G 100 [.inr (.inr x0)] σ).bind fun q1 => if (q1.2.1 x2).1 = 12 ∧ (0 : Int) ≤ 12 ∧ 12 < (q1.2.1 x2).2 then if (q1.1 : Int) = (q1.2.2.1 x2 12) then (if ((q1.2.1 x0).1 : Int) = 10 then (G 101 [.inr (.inr x0)] q1.2).bind fun q2 => if (q2.1 : Int) = 0 then (if ((q2.2.1 x0).1 : Int) = 10 then (G 102 [.inr (.inr x0), .inl 12] q2.2).bind fun q3 => if (q3.1 : Int) = 0 then (if (1 : Int) = 0 ∨ (1 : Int) = 1 then some (1, q3.2) else none) else (if (0 : Int) = 0 ∨ (0 : Int) = 1 then some (0, q3.2) else none) else none) else (if (0 : Int) = 0 ∨ (0 : Int) = 1 then some (0, q2.2) else none) else none) else (if (0 : Int) = 0 ∨ (0 : Int) = 1 then some (0, q1.2) else none) else none else none)) else none) (zi_run zt_145 G n)) := zi_run_succ.trans ze_145_68
set_option maxRecDepth 20000 in
theorem ze_145_116 {G : Nat → List zV → zM → zR} {K : Nat → zL → List zV → zM → zR} {x0 x1 x2 x3 x4 x5 x6 x7 x8 : Int} {σ : zM} : zi_fr zt_145 G K 600 116 [some (.inr (.inr x0)), some (.inr (.inr x1)), some (.inr (.inr x2)), some (.inr (.inr x3)), some (.inl x4), some (.inl x5), some (.inl x6), some (.inl x7), some (.inl x8), none, none, none] [] σ = (if (x5 : Int) < 0 then ((G 138 [.inl x8, .inl 3] σ).bind fun q1 => if (q1.1 : Int) = 0 then (if (q1.2.1 x2).1 = 12 ∧ (0 : Int) ≤ 12 ∧ 12 < (q1.2.1 x2).2 then if ((zi_w (x7 + 1)) : Int) < (q1.2.2.1 x2 12) then (if (x6 : Int) = 0 then (K 166 [some (.inr (.inr x0)), some (.inr (.inr x1)), some (.inr (.inr x2)), some (.inr (.inr x3)), some (.inl x4), some (.inl x7), some (.inl 0), some (.inl x7), some (.inl x8), none, none, none] [] q1.2) else (if ((q1.2.1 x0).1 : Int) = 10 then (G 99 [.inr (.inr x0), .inl 91] q1.2).bind fun q2 => if (0 : Int) < q2.1 then (K 166 [some (.inr (.inr x0)), some (.inr (.inr x1)), some (.inr (.inr x2)), some (.inr (.inr x3)), some (.inl x4), some (.inl x7), some (.inl 1), some (.inl x7), some (.inl x8), none, none, none] [] q2.2) else (K 166 [some (.inr (.inr x0)), some (.inr (.inr x1)), some (.inr (.inr x2)), some (.inr (.inr x3)), some (.inl x4), some (.inl x7), some (.inl 0), some (.inl x7), some (.inl x8), none, none, none] [] q2.2) else none)) else (K 166 [some (.inr (.inr x0)), some (.inr (.inr x1)), some (.inr (.inr x2)), some (.inr (.inr x3)), some (.inl x4), some (.inl x5), some (.inl x6), some (.inl x7), some (.inl x8), none, none, none] [] q1.2) else none) else (K 166 [some (.inr (.inr x0)), some (.inr (.inr x1)), some (.inr (.inr x2)), some (.inr (.inr x3)), some (.inl x4), some (.inl x5), some (.inl x6), some (.inl x7), some (.inl x8), none, none, none] [] q1.2)) else (K 166 [some (.inr (.inr x0)), some (.inr (.inr x1)), some (.inr (.inr x2)), some (.inr (.inr x3)), some (.inl x4), some (.inl x5), some (.inl x6), some (.inl x7), some (.inl x8), none, none, none] [] σ)) := rfl
theorem zk_145_116 {G : Nat → List zV → zM → zR} {n : Nat} {x0 x1 x2 x3 x4 x5 x6 x7 x8 : Int} {σ : zM} : zi_run zt_145 G (n + 1) 116 [some (.inr (.inr x0)), some (.inr (.inr x1)), some (.inr (.inr x2)), some (.inr (.inr x3)), some (.inl x4), some (.inl x5), some (.inl x6), some (.inl x7), some (.inl x8), none, none, none] [] σ = ((fun (K : Nat → zL → List zV → zM → zR) => if (x5 : Int) < 0 then ((G 138 [.inl x8, .inl 3] σ).bind fun q1 => if (q1.1 : Int) = 0 then (if (q1.2.1 x2).1 = 12 ∧ (0 : Int) ≤ 12 ∧ 12 < (q1.2.1 x2).2 then if ((zi_w (x7 + 1)) : Int) < (q1.2.2.1 x2 12) then (if (x6 : Int) = 0 then (K 166 [some (.inr (.inr x0)), some (.inr (.inr x1)), some (.inr (.inr x2)), some (.inr (.inr x3)), some (.inl x4), some (.inl x7), some (.inl 0), some (.inl x7), some (.inl x8), none, none, none] [] q1.2) else (if ((q1.2.1 x0).1 : Int) = 10 then (G 99 [.inr (.inr x0), .inl 91] q1.2).bind fun q2 => if (0 : Int) < q2.1 then (K 166 [some (.inr (.inr x0)), some (.inr (.inr x1)), some (.inr (.inr x2)), some (.inr (.inr x3)), some (.inl x4), some (.inl x7), some (.inl 1), some (.inl x7), some (.inl x8), none, none, none] [] q2.2) else (K 166 [some (.inr (.inr x0)), some (.inr (.inr x1)), some (.inr (.inr x2)), some (.inr (.inr x3)), some (.inl x4), some (.inl x7), some (.inl 0), some (.inl x7), some (.inl x8), none, none, none] [] q2.2) else none)) else (K 166 [some (.inr (.inr x0)), some (.inr (.inr x1)), some (.inr (.inr x2)), some (.inr (.inr x3)), some (.inl x4), some (.inl x5), some (.inl x6), some (.inl x7), some (.inl x8), none, none, none] [] q1.2) else none) else (K 166 [some (.inr (.inr x0)), some (.inr (.inr x1)), some (.inr (.inr x2)), some (.inr (.inr x3)), some (.inl x4), some (.inl x5), some (.inl x6), some (.inl x7), some (.inl x8), none, none, none] [] q1.2)) else (K 166 [some (.inr (.inr x0)), some (.inr (.inr x1)), some (.inr (.inr x2)), some (.inr (.inr x3)), some (.inl x4), some (.inl x5), some (.inl x6), some (.inl x7), some (.inl x8), none, none, none] [] σ)) (zi_run zt_145 G n)) := zi_run_succ.trans ze_145_116
set_option maxRecDepth 20000 in
theorem ze_145_166 {G : Nat → List zV → zM → zR} {K : Nat → zL → List zV → zM → zR} {x0 x1 x2 x3 x4 x5 x6 x7 x8 : Int} {σ : zM} : zi_fr zt_145 G K 600 166 [some (.inr (.inr x0)), some (.inr (.inr x1)), some (.inr (.inr x2)), some (.inr (.inr x3)), some (.inl x4), some (.inl x5), some (.inl x6), some (.inl x7), some (.inl x8), none, none, none] [] σ = ((G 138 [.inl (zi_shr x8 6), .inl 3] σ).bind fun q1 => if (q1.1 : Int) = 0 then ((G 138 [.inl (zi_shr x8 2), .inl 29] q1.2).bind fun q5 => if (q5.2.1 x2).1 = 12 ∧ (0 : Int) ≤ x7 ∧ x7 < (q5.2.1 x2).2 then let s6 : zM := zi_wr q5.2 x2 x7 q5.1; (G 138 [.inl (zi_shr x8 7), .inl 5] s6).bind fun q7 => K 210 [some (.inr (.inr x0)), some (.inr (.inr x1)), some (.inr (.inr x2)), some (.inr (.inr x3)), some (.inl x4), some (.inl x5), some (.inl x6), some (.inl x7), some (.inl x8), some (.inl q7.1), some (.inl 0), none] [] q7.2 else none) else ((G 138 [.inl (zi_shr x8 2), .inl 15] q1.2).bind fun q2 => if (q2.2.1 x2).1 = 12 ∧ (0 : Int) ≤ x7 ∧ x7 < (q2.2.1 x2).2 then let s3 : zM := zi_wr q2.2 x2 x7 q2.1; (G 138 [.inl (zi_shr x8 7), .inl 5] s3).bind fun q4 => K 210 [some (.inr (.inr x0)), some (.inr (.inr x1)), some (.inr (.inr x2)), some (.inr (.inr x3)), some (.inl x4), some (.inl x5), some (.inl x6), some (.inl x7), some (.inl x8), some (.inl q4.1), some (.inl 0), none] [] q4.2 else none)) := rfl
theorem zk_145_166 {G : Nat → List zV → zM → zR} {n : Nat} {x0 x1 x2 x3 x4 x5 x6 x7 x8 : Int} {σ : zM} : zi_run zt_145 G (n + 1) 166 [some (.inr (.inr x0)), some (.inr (.inr x1)), some (.inr (.inr x2)), some (.inr (.inr x3)), some (.inl x4), some (.inl x5), some (.inl x6), some (.inl x7), some (.inl x8), none, none, none] [] σ = ((fun (K : Nat → zL → List zV → zM → zR) => (G 138 [.inl (zi_shr x8 6), .inl 3] σ).bind fun q1 => if (q1.1 : Int) = 0 then ((G 138 [.inl (zi_shr x8 2), .inl 29] q1.2).bind fun q5 => if (q5.2.1 x2).1 = 12 ∧ (0 : Int) ≤ x7 ∧ x7 < (q5.2.1 x2).2 then let s6 : zM := zi_wr q5.2 x2 x7 q5.1; (G 138 [.inl (zi_shr x8 7), .inl 5] s6).bind fun q7 => K 210 [some (.inr (.inr x0)), some (.inr (.inr x1)), some (.inr (.inr x2)), some (.inr (.inr x3)), some (.inl x4), some (.inl x5), some (.inl x6), some (.inl x7), some (.inl x8), some (.inl q7.1), some (.inl 0), none] [] q7.2 else none) else ((G 138 [.inl (zi_shr x8 2), .inl 15] q1.2).bind fun q2 => if (q2.2.1 x2).1 = 12 ∧ (0 : Int) ≤ x7 ∧ x7 < (q2.2.1 x2).2 then let s3 : zM := zi_wr q2.2 x2 x7 q2.1; (G 138 [.inl (zi_shr x8 7), .inl 5] s3).bind fun q4 => K 210 [some (.inr (.inr x0)), some (.inr (.inr x1)), some (.inr (.inr x2)), some (.inr (.inr x3)), some (.inl x4), some (.inl x5), some (.inl x6), some (.inl x7), some (.inl x8), some (.inl q4.1), some (.inl 0), none] [] q4.2 else none)) (zi_run zt_145 G n)) := zi_run_succ.trans ze_145_166
set_option maxRecDepth 20000 in
theorem ze_145_210 {G : Nat → List zV → zM → zR} {K : Nat → zL → List zV → zM → zR} {x0 x1 x2 x3 x4 x5 x6 x7 x8 x9 x10 : Int} {σ : zM} : zi_fr zt_145 G K 600 210 [some (.inr (.inr x0)), some (.inr (.inr x1)), some (.inr (.inr x2)), some (.inr (.inr x3)), some (.inl x4), some (.inl x5), some (.inl x6), some (.inl x7), some (.inl x8), some (.inl x9), some (.inl x10), none] [] σ = (if (σ.1 x2).1 = 12 ∧ (0 : Int) ≤ x7 ∧ x7 < (σ.1 x2).2 then if (x10 : Int) < (σ.2.1 x2 x7) then (if (x10 : Int) < (zi_w (x9 - 1)) then ((G 141 [.inr (.inr x1), .inl x7, .inl x10, .inl 32] σ).bind fun q8 => if (x6 : Int) = 0 then (K 210 [some (.inr (.inr x0)), some (.inr (.inr x1)), some (.inr (.inr x2)), some (.inr (.inr x3)), some (.inl x4), some (.inl x5), some (.inl 0), some (.inl x7), some (.inl x8), some (.inl x9), some (.inl (zi_w (x10 + 1))), none] [] q8.2) else (if ((q8.2.1 x0).1 : Int) = 10 then (G 99 [.inr (.inr x0), .inl 32] q8.2).bind fun q9 => if (0 : Int) < q9.1 then (K 210 [some (.inr (.inr x0)), some (.inr (.inr x1)), some (.inr (.inr x2)), some (.inr (.inr x3)), some (.inl x4), some (.inl x5), some (.inl 1), some (.inl x7), some (.inl x8), some (.inl x9), some (.inl (zi_w (x10 + 1))), none] [] q9.2) else (K 210 [some (.inr (.inr x0)), some (.inr (.inr x1)), some (.inr (.inr x2)), some (.inr (.inr x3)), some (.inl x4), some (.inl x5), some (.inl 0), some (.inl x7), some (.inl x8), some (.inl x9), some (.inl (zi_w (x10 + 1))), none] [] q9.2) else none)) else ((G 139 [.inr (.inr x3), .inl (zi_w ((zi_w ((zi_w (x4 + 8)) + (zi_w (15 * x7)))) + x10))] σ).bind fun q4 => (G 140 [.inl q4.1] q4.2).bind fun q5 => (G 141 [.inr (.inr x1), .inl x7, .inl x10, .inl q5.1] q5.2).bind fun q6 => if (x6 : Int) = 0 then (K 210 [some (.inr (.inr x0)), some (.inr (.inr x1)), some (.inr (.inr x2)), some (.inr (.inr x3)), some (.inl x4), some (.inl x5), some (.inl 0), some (.inl x7), some (.inl x8), some (.inl x9), some (.inl (zi_w (x10 + 1))), none] [] q6.2) else (if ((q6.2.1 x0).1 : Int) = 10 then (G 99 [.inr (.inr x0), .inl q5.1] q6.2).bind fun q7 => if (0 : Int) < q7.1 then (K 210 [some (.inr (.inr x0)), some (.inr (.inr x1)), some (.inr (.inr x2)), some (.inr (.inr x3)), some (.inl x4), some (.inl x5), some (.inl 1), some (.inl x7), some (.inl x8), some (.inl x9), some (.inl (zi_w (x10 + 1))), none] [] q7.2) else (K 210 [some (.inr (.inr x0)), some (.inr (.inr x1)), some (.inr (.inr x2)), some (.inr (.inr x3)), some (.inl x4), some (.inl x5), some (.inl 0), some (.inl x7), some (.inl x8), some (.inl x9), some (.inl (zi_w (x10 + 1))), none] [] q7.2) else none))) else (if (x5 : Int) < 0 then (K 68 [some (.inr (.inr x0)), some (.inr (.inr x1)), some (.inr (.inr x2)), some (.inr (.inr x3)), some (.inl x4), some (.inl x5), some (.inl x6), some (.inl (zi_w (x7 + 1))), none, none, none, none] [] σ) else (if (x5 : Int) < x7 then (if (σ.1 x2).1 = 12 ∧ (0 : Int) ≤ 12 ∧ 12 < (σ.1 x2).2 then if ((zi_w (x7 + 1)) : Int) = (σ.2.1 x2 12) then (if (σ.1 x2).1 = 12 ∧ (0 : Int) ≤ 13 ∧ 13 < (σ.1 x2).2 then (G 143 [.inr (.inr x2), .inl (σ.2.1 x2 13), .inl x5, .inl x7] σ).bind fun q1 => if (q1.1 : Int) = 0 then (K 348 [some (.inr (.inr x0)), some (.inr (.inr x1)), some (.inr (.inr x2)), some (.inr (.inr x3)), some (.inl x4), some (.inl x5), some (.inl x6), some (.inl x7), none, none, none, none] [.inl 1] q1.2) else (K 348 [some (.inr (.inr x0)), some (.inr (.inr x1)), some (.inr (.inr x2)), some (.inr (.inr x3)), some (.inl x4), some (.inl x5), some (.inl x6), some (.inl x7), none, none, none, none] [.inl 0] q1.2) else none) else ((G 138 [.inl (zi_shr x8 9), .inl 2] σ).bind fun q2 => if (q2.1 : Int) = 0 then (if (q2.2.1 x2).1 = 12 ∧ (0 : Int) ≤ 13 ∧ 13 < (q2.2.1 x2).2 then (G 143 [.inr (.inr x2), .inl (q2.2.2.1 x2 13), .inl x5, .inl x7] q2.2).bind fun q3 => if (q3.1 : Int) = 0 then (K 348 [some (.inr (.inr x0)), some (.inr (.inr x1)), some (.inr (.inr x2)), some (.inr (.inr x3)), some (.inl x4), some (.inl x5), some (.inl x6), some (.inl x7), none, none, none, none] [.inl 1] q3.2) else (K 348 [some (.inr (.inr x0)), some (.inr (.inr x1)), some (.inr (.inr x2)), some (.inr (.inr x3)), some (.inl x4), some (.inl x5), some (.inl x6), some (.inl x7), none, none, none, none] [.inl 0] q3.2) else none) else (K 68 [some (.inr (.inr x0)), some (.inr (.inr x1)), some (.inr (.inr x2)), some (.inr (.inr x3)), some (.inl x4), some (.inl x5), some (.inl x6), some (.inl (zi_w (x7 + 1))), none, none, none, none] [] q2.2)) else none) else (K 68 [some (.inr (.inr x0)), some (.inr (.inr x1)), some (.inr (.inr x2)), some (.inr (.inr x3)), some (.inl x4), some (.inl x5), some (.inl x6), some (.inl (zi_w (x7 + 1))), none, none, none, none] [] σ))) else none) := rfl
theorem zk_145_210 {G : Nat → List zV → zM → zR} {n : Nat} {x0 x1 x2 x3 x4 x5 x6 x7 x8 x9 x10 : Int} {σ : zM} : zi_run zt_145 G (n + 1) 210 [some (.inr (.inr x0)), some (.inr (.inr x1)), some (.inr (.inr x2)), some (.inr (.inr x3)), some (.inl x4), some (.inl x5), some (.inl x6), some (.inl x7), some (.inl x8), some (.inl x9), some (.inl x10), none] [] σ = ((fun (K : Nat → zL → List zV → zM → zR) => if (σ.1 x2).1 = 12 ∧ (0 : Int) ≤ x7 ∧ x7 < (σ.1 x2).2 then if (x10 : Int) < (σ.2.1 x2 x7) then (if (x10 : Int) < (zi_w (x9 - 1)) then ((G 141 [.inr (.inr x1), .inl x7, .inl x10, .inl 32] σ).bind fun q8 => if (x6 : Int) = 0 then (K 210 [some (.inr (.inr x0)), some (.inr (.inr x1)), some (.inr (.inr x2)), some (.inr (.inr x3)), some (.inl x4), some (.inl x5), some (.inl 0), some (.inl x7), some (.inl x8), some (.inl x9), some (.inl (zi_w (x10 + 1))), none] [] q8.2) else (if ((q8.2.1 x0).1 : Int) = 10 then (G 99 [.inr (.inr x0), .inl 32] q8.2).bind fun q9 => if (0 : Int) < q9.1 then (K 210 [some (.inr (.inr x0)), some (.inr (.inr x1)), some (.inr (.inr x2)), some (.inr (.inr x3)), some (.inl x4), some (.inl x5), some (.inl 1), some (.inl x7), some (.inl x8), some (.inl x9), some (.inl (zi_w (x10 + 1))), none] [] q9.2) else (K 210 [some (.inr (.inr x0)), some (.inr (.inr x1)), some (.inr (.inr x2)), some (.inr (.inr x3)), some (.inl x4), some (.inl x5), some (.inl 0), some (.inl x7), some (.inl x8), some (.inl x9), some (.inl (zi_w (x10 + 1))), none] [] q9.2) else none)) else ((G 139 [.inr (.inr x3), .inl (zi_w ((zi_w ((zi_w (x4 + 8)) + (zi_w (15 * x7)))) + x10))] σ).bind fun q4 => (G 140 [.inl q4.1] q4.2).bind fun q5 => (G 141 [.inr (.inr x1), .inl x7, .inl x10, .inl q5.1] q5.2).bind fun q6 => if (x6 : Int) = 0 then (K 210 [some (.inr (.inr x0)), some (.inr (.inr x1)), some (.inr (.inr x2)), some (.inr (.inr x3)), some (.inl x4), some (.inl x5), some (.inl 0), some (.inl x7), some (.inl x8), some (.inl x9), some (.inl (zi_w (x10 + 1))), none] [] q6.2) else (if ((q6.2.1 x0).1 : Int) = 10 then (G 99 [.inr (.inr x0), .inl q5.1] q6.2).bind fun q7 => if (0 : Int) < q7.1 then (K 210 [some (.inr (.inr x0)), some (.inr (.inr x1)), some (.inr (.inr x2)), some (.inr (.inr x3)), some (.inl x4), some (.inl x5), some (.inl 1), some (.inl x7), some (.inl x8), some (.inl x9), some (.inl (zi_w (x10 + 1))), none] [] q7.2) else (K 210 [some (.inr (.inr x0)), some (.inr (.inr x1)), some (.inr (.inr x2)), some (.inr (.inr x3)), some (.inl x4), some (.inl x5), some (.inl 0), some (.inl x7), some (.inl x8), some (.inl x9), some (.inl (zi_w (x10 + 1))), none] [] q7.2) else none))) else (if (x5 : Int) < 0 then (K 68 [some (.inr (.inr x0)), some (.inr (.inr x1)), some (.inr (.inr x2)), some (.inr (.inr x3)), some (.inl x4), some (.inl x5), some (.inl x6), some (.inl (zi_w (x7 + 1))), none, none, none, none] [] σ) else (if (x5 : Int) < x7 then (if (σ.1 x2).1 = 12 ∧ (0 : Int) ≤ 12 ∧ 12 < (σ.1 x2).2 then if ((zi_w (x7 + 1)) : Int) = (σ.2.1 x2 12) then (if (σ.1 x2).1 = 12 ∧ (0 : Int) ≤ 13 ∧ 13 < (σ.1 x2).2 then (G 143 [.inr (.inr x2), .inl (σ.2.1 x2 13), .inl x5, .inl x7] σ).bind fun q1 => if (q1.1 : Int) = 0 then (K 348 [some (.inr (.inr x0)), some (.inr (.inr x1)), some (.inr (.inr x2)), some (.inr (.inr x3)), some (.inl x4), some (.inl x5), some (.inl x6), some (.inl x7), none, none, none, none] [.inl 1] q1.2) else (K 348 [some (.inr (.inr x0)), some (.inr (.inr x1)), some (.inr (.inr x2)), some (.inr (.inr x3)), some (.inl x4), some (.inl x5), some (.inl x6), some (.inl x7), none, none, none, none] [.inl 0] q1.2) else none) else ((G 138 [.inl (zi_shr x8 9), .inl 2] σ).bind fun q2 => if (q2.1 : Int) = 0 then (if (q2.2.1 x2).1 = 12 ∧ (0 : Int) ≤ 13 ∧ 13 < (q2.2.1 x2).2 then (G 143 [.inr (.inr x2), .inl (q2.2.2.1 x2 13), .inl x5, .inl x7] q2.2).bind fun q3 => if (q3.1 : Int) = 0 then (K 348 [some (.inr (.inr x0)), some (.inr (.inr x1)), some (.inr (.inr x2)), some (.inr (.inr x3)), some (.inl x4), some (.inl x5), some (.inl x6), some (.inl x7), none, none, none, none] [.inl 1] q3.2) else (K 348 [some (.inr (.inr x0)), some (.inr (.inr x1)), some (.inr (.inr x2)), some (.inr (.inr x3)), some (.inl x4), some (.inl x5), some (.inl x6), some (.inl x7), none, none, none, none] [.inl 0] q3.2) else none) else (K 68 [some (.inr (.inr x0)), some (.inr (.inr x1)), some (.inr (.inr x2)), some (.inr (.inr x3)), some (.inl x4), some (.inl x5), some (.inl x6), some (.inl (zi_w (x7 + 1))), none, none, none, none] [] q2.2)) else none) else (K 68 [some (.inr (.inr x0)), some (.inr (.inr x1)), some (.inr (.inr x2)), some (.inr (.inr x3)), some (.inl x4), some (.inl x5), some (.inl x6), some (.inl (zi_w (x7 + 1))), none, none, none, none] [] σ))) else none) (zi_run zt_145 G n)) := zi_run_succ.trans ze_145_210
set_option maxRecDepth 20000 in
theorem ze_145_348 {G : Nat → List zV → zM → zR} {K : Nat → zL → List zV → zM → zR} {x0 x1 x2 x3 x4 x5 x6 x7 y0 : Int} {σ : zM} : zi_fr zt_145 G K 600 348 [some (.inr (.inr x0)), some (.inr (.inr x1)), some (.inr (.inr x2)), some (.inr (.inr x3)), some (.inl x4), some (.inl x5), some (.inl x6), some (.inl x7), none, none, none, none] [.inl y0] σ = (if (y0 : Int) = 0 then (K 68 [some (.inr (.inr x0)), some (.inr (.inr x1)), some (.inr (.inr x2)), some (.inr (.inr x3)), some (.inl x4), some (.inl x5), some (.inl x6), some (.inl (zi_w (x7 + 1))), none, none, none, none] [] σ) else ((G 144 [.inr (.inr x2), .inl x5, .inl x7] σ).bind fun q1 => if (x6 : Int) = 0 then (K 68 [some (.inr (.inr x0)), some (.inr (.inr x1)), some (.inr (.inr x2)), some (.inr (.inr x3)), some (.inl x4), some (.inl (-1)), some (.inl 0), some (.inl (zi_w (x7 + 1))), none, none, none, none] [] q1.2) else (if ((q1.2.1 x0).1 : Int) = 10 then (G 99 [.inr (.inr x0), .inl 93] q1.2).bind fun q2 => if (0 : Int) < q2.1 then (K 68 [some (.inr (.inr x0)), some (.inr (.inr x1)), some (.inr (.inr x2)), some (.inr (.inr x3)), some (.inl x4), some (.inl (-1)), some (.inl 1), some (.inl (zi_w (x7 + 1))), none, none, none, none] [] q2.2) else (K 68 [some (.inr (.inr x0)), some (.inr (.inr x1)), some (.inr (.inr x2)), some (.inr (.inr x3)), some (.inl x4), some (.inl (-1)), some (.inl 0), some (.inl (zi_w (x7 + 1))), none, none, none, none] [] q2.2) else none))) := rfl
theorem zk_145_348 {G : Nat → List zV → zM → zR} {n : Nat} {x0 x1 x2 x3 x4 x5 x6 x7 y0 : Int} {σ : zM} : zi_run zt_145 G (n + 1) 348 [some (.inr (.inr x0)), some (.inr (.inr x1)), some (.inr (.inr x2)), some (.inr (.inr x3)), some (.inl x4), some (.inl x5), some (.inl x6), some (.inl x7), none, none, none, none] [.inl y0] σ = ((fun (K : Nat → zL → List zV → zM → zR) => if (y0 : Int) = 0 then (K 68 [some (.inr (.inr x0)), some (.inr (.inr x1)), some (.inr (.inr x2)), some (.inr (.inr x3)), some (.inl x4), some (.inl x5), some (.inl x6), some (.inl (zi_w (x7 + 1))), none, none, none, none] [] σ) else ((G 144 [.inr (.inr x2), .inl x5, .inl x7] σ).bind fun q1 => if (x6 : Int) = 0 then (K 68 [some (.inr (.inr x0)), some (.inr (.inr x1)), some (.inr (.inr x2)), some (.inr (.inr x3)), some (.inl x4), some (.inl (-1)), some (.inl 0), some (.inl (zi_w (x7 + 1))), none, none, none, none] [] q1.2) else (if ((q1.2.1 x0).1 : Int) = 10 then (G 99 [.inr (.inr x0), .inl 93] q1.2).bind fun q2 => if (0 : Int) < q2.1 then (K 68 [some (.inr (.inr x0)), some (.inr (.inr x1)), some (.inr (.inr x2)), some (.inr (.inr x3)), some (.inl x4), some (.inl (-1)), some (.inl 1), some (.inl (zi_w (x7 + 1))), none, none, none, none] [] q2.2) else (K 68 [some (.inr (.inr x0)), some (.inr (.inr x1)), some (.inr (.inr x2)), some (.inr (.inr x3)), some (.inl x4), some (.inl (-1)), some (.inl 0), some (.inl (zi_w (x7 + 1))), none, none, none, none] [] q2.2) else none))) (zi_run zt_145 G n)) := zi_run_succ.trans ze_145_348
-- FoldedRowsLaw.all(LFoldedRows;)I
set_option maxRecDepth 20000 in
theorem ze_146_0 {G : Nat → List zV → zM → zR} {K : Nat → zL → List zV → zM → zR} {x0 : Int} {σ : zM} : zi_fr zt_146 G K 600 0 [some (.inr (.inr x0)), none, none, none] [] σ = (K 5 [some (.inr (.inr x0)), some (.inl 7), some (.inl 0), none] [] σ) := rfl
theorem zm_146 {d : Nat} {x0 : Int} {σ : zM} : zG (d + 1) 146 [.inr (.inr x0)] σ = ((fun (G : Nat → List zV → zM → zR) (K : Nat → zL → List zV → zM → zR) => K 5 [some (.inr (.inr x0)), some (.inl 7), some (.inl 0), none] [] σ) (zG d) (zi_run zt_146 (zG d) 19999)) := (zG_eq zt_146 rfl rfl rfl).trans ze_146_0
set_option maxRecDepth 20000 in
theorem ze_146_5 {G : Nat → List zV → zM → zR} {K : Nat → zL → List zV → zM → zR} {x0 x1 x2 : Int} {σ : zM} : zi_fr zt_146 G K 600 5 [some (.inr (.inr x0)), some (.inl x1), some (.inl x2), none] [] σ = (if (x2 : Int) < 10 then (if ((σ.1 x0).1 : Int) = 10 then (G 102 [.inr (.inr x0), .inl x2] σ).bind fun q1 => K 5 [some (.inr (.inr x0)), some (.inl (zi_w ((zi_w (31 * x1)) + q1.1))), some (.inl (zi_w (x2 + 1))), none] [] q1.2 else none) else (K 30 [some (.inr (.inr x0)), some (.inl x1), some (.inl 0), none] [] σ)) := rfl
theorem zk_146_5 {G : Nat → List zV → zM → zR} {n : Nat} {x0 x1 x2 : Int} {σ : zM} : zi_run zt_146 G (n + 1) 5 [some (.inr (.inr x0)), some (.inl x1), some (.inl x2), none] [] σ = ((fun (K : Nat → zL → List zV → zM → zR) => if (x2 : Int) < 10 then (if ((σ.1 x0).1 : Int) = 10 then (G 102 [.inr (.inr x0), .inl x2] σ).bind fun q1 => K 5 [some (.inr (.inr x0)), some (.inl (zi_w ((zi_w (31 * x1)) + q1.1))), some (.inl (zi_w (x2 + 1))), none] [] q1.2 else none) else (K 30 [some (.inr (.inr x0)), some (.inl x1), some (.inl 0), none] [] σ)) (zi_run zt_146 G n)) := zi_run_succ.trans ze_146_5
set_option maxRecDepth 20000 in
theorem ze_146_30 {G : Nat → List zV → zM → zR} {K : Nat → zL → List zV → zM → zR} {x0 x1 x2 : Int} {σ : zM} : zi_fr zt_146 G K 600 30 [some (.inr (.inr x0)), some (.inl x1), some (.inl x2), none] [] σ = (if ((σ.1 x0).1 : Int) = 10 then (G 102 [.inr (.inr x0), .inl 0] σ).bind fun q1 => if (x2 : Int) < q1.1 then (K 41 [some (.inr (.inr x0)), some (.inl x1), some (.inl x2), some (.inl 0)] [] q1.2) else (K 96 [some (.inr (.inr x0)), some (.inl x1), some (.inl 0), none] [] q1.2) else none) := rfl
theorem zk_146_30 {G : Nat → List zV → zM → zR} {n : Nat} {x0 x1 x2 : Int} {σ : zM} : zi_run zt_146 G (n + 1) 30 [some (.inr (.inr x0)), some (.inl x1), some (.inl x2), none] [] σ = ((fun (K : Nat → zL → List zV → zM → zR) => if ((σ.1 x0).1 : Int) = 10 then (G 102 [.inr (.inr x0), .inl 0] σ).bind fun q1 => if (x2 : Int) < q1.1 then (K 41 [some (.inr (.inr x0)), some (.inl x1), some (.inl x2), some (.inl 0)] [] q1.2) else (K 96 [some (.inr (.inr x0)), some (.inl x1), some (.inl 0), none] [] q1.2) else none) (zi_run zt_146 G n)) := zi_run_succ.trans ze_146_30
set_option maxRecDepth 20000 in
theorem ze_146_41 {G : Nat → List zV → zM → zR} {K : Nat → zL → List zV → zM → zR} {x0 x1 x2 x3 : Int} {σ : zM} : zi_fr zt_146 G K 600 41 [some (.inr (.inr x0)), some (.inl x1), some (.inl x2), some (.inl x3)] [] σ = (if ((σ.1 x0).1 : Int) = 10 then (G 104 [.inr (.inr x0), .inl x2, .inl 0] σ).bind fun q1 => if (q1.1 : Int) < x3 then (K 30 [some (.inr (.inr x0)), some (.inl x1), some (.inl (zi_w (x2 + 1))), none] [] q1.2) else (if ((q1.2.1 x0).1 : Int) = 10 then (G 103 [.inr (.inr x0), .inl x2, .inl x3] q1.2).bind fun q2 => if ((q2.2.1 x0).1 : Int) = 10 then (G 107 [.inr (.inr x0), .inl x2, .inl x3, .inl 0] q2.2).bind fun q3 => if ((q3.2.1 x0).1 : Int) = 10 then (G 107 [.inr (.inr x0), .inl x2, .inl x3, .inl 1] q3.2).bind fun q4 => K 41 [some (.inr (.inr x0)), some (.inl (zi_w ((zi_w ((zi_w ((zi_w (31 * x1)) + q2.1)) + (zi_w (77 * q3.1)))) + q4.1))), some (.inl x2), some (.inl (zi_w (x3 + 1)))] [] q4.2 else none else none else none) else none) := rfl
theorem zk_146_41 {G : Nat → List zV → zM → zR} {n : Nat} {x0 x1 x2 x3 : Int} {σ : zM} : zi_run zt_146 G (n + 1) 41 [some (.inr (.inr x0)), some (.inl x1), some (.inl x2), some (.inl x3)] [] σ = ((fun (K : Nat → zL → List zV → zM → zR) => if ((σ.1 x0).1 : Int) = 10 then (G 104 [.inr (.inr x0), .inl x2, .inl 0] σ).bind fun q1 => if (q1.1 : Int) < x3 then (K 30 [some (.inr (.inr x0)), some (.inl x1), some (.inl (zi_w (x2 + 1))), none] [] q1.2) else (if ((q1.2.1 x0).1 : Int) = 10 then (G 103 [.inr (.inr x0), .inl x2, .inl x3] q1.2).bind fun q2 => if ((q2.2.1 x0).1 : Int) = 10 then (G 107 [.inr (.inr x0), .inl x2, .inl x3, .inl 0] q2.2).bind fun q3 => if ((q3.2.1 x0).1 : Int) = 10 then (G 107 [.inr (.inr x0), .inl x2, .inl x3, .inl 1] q3.2).bind fun q4 => K 41 [some (.inr (.inr x0)), some (.inl (zi_w ((zi_w ((zi_w ((zi_w (31 * x1)) + q2.1)) + (zi_w (77 * q3.1)))) + q4.1))), some (.inl x2), some (.inl (zi_w (x3 + 1)))] [] q4.2 else none else none else none) else none) (zi_run zt_146 G n)) := zi_run_succ.trans ze_146_41
set_option maxRecDepth 20000 in
theorem ze_146_96 {G : Nat → List zV → zM → zR} {K : Nat → zL → List zV → zM → zR} {x0 x1 x2 : Int} {σ : zM} : zi_fr zt_146 G K 600 96 [some (.inr (.inr x0)), some (.inl x1), some (.inl x2), none] [] σ = (if ((σ.1 x0).1 : Int) = 10 then (G 102 [.inr (.inr x0), .inl 4] σ).bind fun q1 => if (x2 : Int) < q1.1 then (if ((q1.2.1 x0).1 : Int) = 10 then (G 109 [.inr (.inr x0), .inl x2, .inl 0] q1.2).bind fun q4 => if ((q4.2.1 x0).1 : Int) = 10 then (G 109 [.inr (.inr x0), .inl x2, .inl 1] q4.2).bind fun q5 => if ((q5.2.1 x0).1 : Int) = 10 then (G 109 [.inr (.inr x0), .inl x2, .inl 2] q5.2).bind fun q6 => K 96 [some (.inr (.inr x0)), some (.inl (zi_w ((zi_w (31 * (zi_w ((zi_w (31 * (zi_w ((zi_w (31 * x1)) + q4.1)))) + q5.1)))) + q6.1))), some (.inl (zi_w (x2 + 1))), none] [] q6.2 else none else none else none) else (if ((q1.2.1 x0).1 : Int) = 10 then (G 110 [.inr (.inr x0), .inl 0] q1.2).bind fun q2 => if ((q2.2.1 x0).1 : Int) = 10 then (G 110 [.inr (.inr x0), .inl 1] q2.2).bind fun q3 => some ((zi_w ((zi_w (31 * (zi_w ((zi_w (31 * x1)) + q2.1)))) + q3.1)), q3.2) else none else none) else none) := rfl
theorem zk_146_96 {G : Nat → List zV → zM → zR} {n : Nat} {x0 x1 x2 : Int} {σ : zM} : zi_run zt_146 G (n + 1) 96 [some (.inr (.inr x0)), some (.inl x1), some (.inl x2), none] [] σ = ((fun (K : Nat → zL → List zV → zM → zR) => if ((σ.1 x0).1 : Int) = 10 then (G 102 [.inr (.inr x0), .inl 4] σ).bind fun q1 => if (x2 : Int) < q1.1 then (if ((q1.2.1 x0).1 : Int) = 10 then (G 109 [.inr (.inr x0), .inl x2, .inl 0] q1.2).bind fun q4 => if ((q4.2.1 x0).1 : Int) = 10 then (G 109 [.inr (.inr x0), .inl x2, .inl 1] q4.2).bind fun q5 => if ((q5.2.1 x0).1 : Int) = 10 then (G 109 [.inr (.inr x0), .inl x2, .inl 2] q5.2).bind fun q6 => K 96 [some (.inr (.inr x0)), some (.inl (zi_w ((zi_w (31 * (zi_w ((zi_w (31 * (zi_w ((zi_w (31 * x1)) + q4.1)))) + q5.1)))) + q6.1))), some (.inl (zi_w (x2 + 1))), none] [] q6.2 else none else none else none) else (if ((q1.2.1 x0).1 : Int) = 10 then (G 110 [.inr (.inr x0), .inl 0] q1.2).bind fun q2 => if ((q2.2.1 x0).1 : Int) = 10 then (G 110 [.inr (.inr x0), .inl 1] q2.2).bind fun q3 => some ((zi_w ((zi_w (31 * (zi_w ((zi_w (31 * x1)) + q2.1)))) + q3.1)), q3.2) else none else none) else none) (zi_run zt_146 G n)) := zi_run_succ.trans ze_146_96
-- FoldedRowsLaw.steady(LFoldedRows;)Z
set_option maxRecDepth 20000 in
theorem ze_147_0 {G : Nat → List zV → zM → zR} {K : Nat → zL → List zV → zM → zR} {x0 : Int} {σ : zM} : zi_fr zt_147 G K 600 0 [some (.inr (.inr x0)), none, none, none, none, none, none, none, none] [] σ = (if ((σ.1 x0).1 : Int) = 10 then (G 102 [.inr (.inr x0), .inl 2] σ).bind fun q1 => K 13 [some (.inr (.inr x0)), some (.inl q1.1), some (.inl (-1)), some (.inl 0), some (.inl 0), none, none, none, none] [] q1.2 else none) := rfl
theorem zm_147 {d : Nat} {x0 : Int} {σ : zM} : zG (d + 1) 147 [.inr (.inr x0)] σ = ((fun (G : Nat → List zV → zM → zR) (K : Nat → zL → List zV → zM → zR) => if ((σ.1 x0).1 : Int) = 10 then (G 102 [.inr (.inr x0), .inl 2] σ).bind fun q1 => K 13 [some (.inr (.inr x0)), some (.inl q1.1), some (.inl (-1)), some (.inl 0), some (.inl 0), none, none, none, none] [] q1.2 else none) (zG d) (zi_run zt_147 (zG d) 19999)) := (zG_eq zt_147 rfl rfl rfl).trans ze_147_0
set_option maxRecDepth 20000 in
theorem ze_147_13 {G : Nat → List zV → zM → zR} {K : Nat → zL → List zV → zM → zR} {x0 x1 x2 x3 x4 : Int} {σ : zM} : zi_fr zt_147 G K 600 13 [some (.inr (.inr x0)), some (.inl x1), some (.inl x2), some (.inl x3), some (.inl x4), none, none, none, none] [] σ = (if (x4 : Int) < x1 then (if ((σ.1 x0).1 : Int) = 10 then (G 105 [.inr (.inr x0), .inl x4, .inl 0] σ).bind fun q2 => if (q2.1 : Int) = x2 then (if ((q2.2.1 x0).1 : Int) = 10 then (G 105 [.inr (.inr x0), .inl x4, .inl 1] q2.2).bind fun q6 => if (q6.1 : Int) = x3 then (K 80 [some (.inr (.inr x0)), some (.inl x1), some (.inl x2), none, some (.inl x4), some (.inl q2.1), none, none, none] [] q6.2) else (if (0 : Int) = 0 ∨ (0 : Int) = 1 then some (0, q6.2) else none) else none) else (if (x2 : Int) < 0 then (if (x2 : Int) < q2.1 then (if ((q2.2.1 x0).1 : Int) = 10 then (G 105 [.inr (.inr x0), .inl x4, .inl 1] q2.2).bind fun q3 => if (q3.1 : Int) = 0 then (K 80 [some (.inr (.inr x0)), some (.inl x1), some (.inl x2), none, some (.inl x4), some (.inl q2.1), none, none, none] [] q3.2) else (if (0 : Int) = 0 ∨ (0 : Int) = 1 then some (0, q3.2) else none) else none) else (if (0 : Int) = 0 ∨ (0 : Int) = 1 then some (0, q2.2) else none)) else (if ((q2.2.1 x0).1 : Int) = 10 then (G 104 [.inr (.inr x0), .inl x2, .inl 0] q2.2).bind fun q4 => if (x3 : Int) = q4.1 then (if (x2 : Int) < q2.1 then (if ((q4.2.1 x0).1 : Int) = 10 then (G 105 [.inr (.inr x0), .inl x4, .inl 1] q4.2).bind fun q5 => if (q5.1 : Int) = 0 then (K 80 [some (.inr (.inr x0)), some (.inl x1), some (.inl x2), none, some (.inl x4), some (.inl q2.1), none, none, none] [] q5.2) else (if (0 : Int) = 0 ∨ (0 : Int) = 1 then some (0, q5.2) else none) else none) else (if (0 : Int) = 0 ∨ (0 : Int) = 1 then some (0, q4.2) else none)) else (if (0 : Int) = 0 ∨ (0 : Int) = 1 then some (0, q4.2) else none) else none)) else none) else (if ((σ.1 x0).1 : Int) = 10 then (G 104 [.inr (.inr x0), .inl x2, .inl 0] σ).bind fun q1 => if (x3 : Int) = q1.1 then (K 346 [some (.inr (.inr x0)), none, none, none, some (.inl 0), none, none, none, none] [] q1.2) else (if (0 : Int) = 0 ∨ (0 : Int) = 1 then some (0, q1.2) else none) else none)) := rfl
theorem zk_147_13 {G : Nat → List zV → zM → zR} {n : Nat} {x0 x1 x2 x3 x4 : Int} {σ : zM} : zi_run zt_147 G (n + 1) 13 [some (.inr (.inr x0)), some (.inl x1), some (.inl x2), some (.inl x3), some (.inl x4), none, none, none, none] [] σ = ((fun (K : Nat → zL → List zV → zM → zR) => if (x4 : Int) < x1 then (if ((σ.1 x0).1 : Int) = 10 then (G 105 [.inr (.inr x0), .inl x4, .inl 0] σ).bind fun q2 => if (q2.1 : Int) = x2 then (if ((q2.2.1 x0).1 : Int) = 10 then (G 105 [.inr (.inr x0), .inl x4, .inl 1] q2.2).bind fun q6 => if (q6.1 : Int) = x3 then (K 80 [some (.inr (.inr x0)), some (.inl x1), some (.inl x2), none, some (.inl x4), some (.inl q2.1), none, none, none] [] q6.2) else (if (0 : Int) = 0 ∨ (0 : Int) = 1 then some (0, q6.2) else none) else none) else (if (x2 : Int) < 0 then (if (x2 : Int) < q2.1 then (if ((q2.2.1 x0).1 : Int) = 10 then (G 105 [.inr (.inr x0), .inl x4, .inl 1] q2.2).bind fun q3 => if (q3.1 : Int) = 0 then (K 80 [some (.inr (.inr x0)), some (.inl x1), some (.inl x2), none, some (.inl x4), some (.inl q2.1), none, none, none] [] q3.2) else (if (0 : Int) = 0 ∨ (0 : Int) = 1 then some (0, q3.2) else none) else none) else (if (0 : Int) = 0 ∨ (0 : Int) = 1 then some (0, q2.2) else none)) else (if ((q2.2.1 x0).1 : Int) = 10 then (G 104 [.inr (.inr x0), .inl x2, .inl 0] q2.2).bind fun q4 => if (x3 : Int) = q4.1 then (if (x2 : Int) < q2.1 then (if ((q4.2.1 x0).1 : Int) = 10 then (G 105 [.inr (.inr x0), .inl x4, .inl 1] q4.2).bind fun q5 => if (q5.1 : Int) = 0 then (K 80 [some (.inr (.inr x0)), some (.inl x1), some (.inl x2), none, some (.inl x4), some (.inl q2.1), none, none, none] [] q5.2) else (if (0 : Int) = 0 ∨ (0 : Int) = 1 then some (0, q5.2) else none) else none) else (if (0 : Int) = 0 ∨ (0 : Int) = 1 then some (0, q4.2) else none)) else (if (0 : Int) = 0 ∨ (0 : Int) = 1 then some (0, q4.2) else none) else none)) else none) else (if ((σ.1 x0).1 : Int) = 10 then (G 104 [.inr (.inr x0), .inl x2, .inl 0] σ).bind fun q1 => if (x3 : Int) = q1.1 then (K 346 [some (.inr (.inr x0)), none, none, none, some (.inl 0), none, none, none, none] [] q1.2) else (if (0 : Int) = 0 ∨ (0 : Int) = 1 then some (0, q1.2) else none) else none)) (zi_run zt_147 G n)) := zi_run_succ.trans ze_147_13
set_option maxRecDepth 20000 in
theorem ze_147_80 {G : Nat → List zV → zM → zR} {K : Nat → zL → List zV → zM → zR} {x0 x1 x2 x4 x5 : Int} {σ : zM} : zi_fr zt_147 G K 600 80 [some (.inr (.inr x0)), some (.inl x1), some (.inl x2), none, some (.inl x4), some (.inl x5), none, none, none] [] σ = (if (x5 : Int) = x2 then (if ((σ.1 x0).1 : Int) = 10 then (G 105 [.inr (.inr x0), .inl x4, .inl 3] σ).bind fun q1 => if ((q1.2.1 x0).1 : Int) = 10 then (G 104 [.inr (.inr x0), .inl x5, .inl 3] q1.2).bind fun q2 => if (q1.1 : Int) = q2.1 then (if ((q2.2.1 x0).1 : Int) = 10 then (G 105 [.inr (.inr x0), .inl x4, .inl 2] q2.2).bind fun q3 => if ((q3.2.1 x0).1 : Int) = 10 then (G 105 [.inr (.inr x0), .inl x4, .inl 1] q3.2).bind fun q4 => if (q4.1 : Int) < q3.1 then (if ((q4.2.1 x0).1 : Int) = 10 then (G 105 [.inr (.inr x0), .inl x4, .inl 1] q4.2).bind fun q5 => if ((q5.2.1 x0).1 : Int) = 10 then (G 107 [.inr (.inr x0), .inl x5, .inl q5.1, .inl 2] q5.2).bind fun q6 => if (q6.1 : Int) = 1 then (K 145 [some (.inr (.inr x0)), some (.inl x1), none, none, some (.inl x4), some (.inl x5), some (.inl (zi_w (x2 + 1))), none, none] [] q6.2) else (if (0 : Int) = 0 ∨ (0 : Int) = 1 then some (0, q6.2) else none) else none else none) else (if (0 : Int) = 0 ∨ (0 : Int) = 1 then some (0, q4.2) else none) else none else none) else (if (0 : Int) = 0 ∨ (0 : Int) = 1 then some (0, q2.2) else none) else none else none) else (K 145 [some (.inr (.inr x0)), some (.inl x1), none, none, some (.inl x4), some (.inl x5), some (.inl (zi_w (x2 + 1))), none, none] [] σ)) := rfl
theorem zk_147_80 {G : Nat → List zV → zM → zR} {n : Nat} {x0 x1 x2 x4 x5 : Int} {σ : zM} : zi_run zt_147 G (n + 1) 80 [some (.inr (.inr x0)), some (.inl x1), some (.inl x2), none, some (.inl x4), some (.inl x5), none, none, none] [] σ = ((fun (K : Nat → zL → List zV → zM → zR) => if (x5 : Int) = x2 then (if ((σ.1 x0).1 : Int) = 10 then (G 105 [.inr (.inr x0), .inl x4, .inl 3] σ).bind fun q1 => if ((q1.2.1 x0).1 : Int) = 10 then (G 104 [.inr (.inr x0), .inl x5, .inl 3] q1.2).bind fun q2 => if (q1.1 : Int) = q2.1 then (if ((q2.2.1 x0).1 : Int) = 10 then (G 105 [.inr (.inr x0), .inl x4, .inl 2] q2.2).bind fun q3 => if ((q3.2.1 x0).1 : Int) = 10 then (G 105 [.inr (.inr x0), .inl x4, .inl 1] q3.2).bind fun q4 => if (q4.1 : Int) < q3.1 then (if ((q4.2.1 x0).1 : Int) = 10 then (G 105 [.inr (.inr x0), .inl x4, .inl 1] q4.2).bind fun q5 => if ((q5.2.1 x0).1 : Int) = 10 then (G 107 [.inr (.inr x0), .inl x5, .inl q5.1, .inl 2] q5.2).bind fun q6 => if (q6.1 : Int) = 1 then (K 145 [some (.inr (.inr x0)), some (.inl x1), none, none, some (.inl x4), some (.inl x5), some (.inl (zi_w (x2 + 1))), none, none] [] q6.2) else (if (0 : Int) = 0 ∨ (0 : Int) = 1 then some (0, q6.2) else none) else none else none) else (if (0 : Int) = 0 ∨ (0 : Int) = 1 then some (0, q4.2) else none) else none else none) else (if (0 : Int) = 0 ∨ (0 : Int) = 1 then some (0, q2.2) else none) else none else none) else (K 145 [some (.inr (.inr x0)), some (.inl x1), none, none, some (.inl x4), some (.inl x5), some (.inl (zi_w (x2 + 1))), none, none] [] σ)) (zi_run zt_147 G n)) := zi_run_succ.trans ze_147_80
set_option maxRecDepth 20000 in
theorem ze_147_145 {G : Nat → List zV → zM → zR} {K : Nat → zL → List zV → zM → zR} {x0 x1 x4 x5 x6 : Int} {σ : zM} : zi_fr zt_147 G K 600 145 [some (.inr (.inr x0)), some (.inl x1), none, none, some (.inl x4), some (.inl x5), some (.inl x6), none, none] [] σ = (if (x6 : Int) < x5 then (if ((σ.1 x0).1 : Int) = 10 then (G 104 [.inr (.inr x0), .inl x6, .inl 2] σ).bind fun q5 => if (q5.1 : Int) = (-4) then (K 145 [some (.inr (.inr x0)), some (.inl x1), none, none, some (.inl x4), some (.inl x5), some (.inl (zi_w (x6 + 1))), none, none] [] q5.2) else (if (0 : Int) = 0 ∨ (0 : Int) = 1 then some (0, q5.2) else none) else none) else (if ((σ.1 x0).1 : Int) = 10 then (G 105 [.inr (.inr x0), .inl x4, .inl 2] σ).bind fun q1 => if ((q1.2.1 x0).1 : Int) = 10 then (G 102 [.inr (.inr x0), .inl 8] q1.2).bind fun q2 => if (0 : Int) < q2.1 then (if ((q2.2.1 x0).1 : Int) = 10 then (G 105 [.inr (.inr x0), .inl x4, .inl 4] q2.2).bind fun q3 => if ((q3.2.1 x0).1 : Int) = 10 then (G 102 [.inr (.inr x0), .inl 6] q3.2).bind fun q4 => if (q4.1 : Int) < q3.1 then (if (0 : Int) = 0 ∨ (0 : Int) = 1 then some (0, q4.2) else none) else (K 216 [some (.inr (.inr x0)), some (.inl x1), some (.inl x5), some (.inl q1.1), some (.inl x4), none, some (.inl 0), some (.inl 0), none] [] q4.2) else none else none) else (K 216 [some (.inr (.inr x0)), some (.inl x1), some (.inl x5), some (.inl q1.1), some (.inl x4), none, some (.inl 0), some (.inl 0), none] [] q2.2) else none else none)) := rfl
theorem zk_147_145 {G : Nat → List zV → zM → zR} {n : Nat} {x0 x1 x4 x5 x6 : Int} {σ : zM} : zi_run zt_147 G (n + 1) 145 [some (.inr (.inr x0)), some (.inl x1), none, none, some (.inl x4), some (.inl x5), some (.inl x6), none, none] [] σ = ((fun (K : Nat → zL → List zV → zM → zR) => if (x6 : Int) < x5 then (if ((σ.1 x0).1 : Int) = 10 then (G 104 [.inr (.inr x0), .inl x6, .inl 2] σ).bind fun q5 => if (q5.1 : Int) = (-4) then (K 145 [some (.inr (.inr x0)), some (.inl x1), none, none, some (.inl x4), some (.inl x5), some (.inl (zi_w (x6 + 1))), none, none] [] q5.2) else (if (0 : Int) = 0 ∨ (0 : Int) = 1 then some (0, q5.2) else none) else none) else (if ((σ.1 x0).1 : Int) = 10 then (G 105 [.inr (.inr x0), .inl x4, .inl 2] σ).bind fun q1 => if ((q1.2.1 x0).1 : Int) = 10 then (G 102 [.inr (.inr x0), .inl 8] q1.2).bind fun q2 => if (0 : Int) < q2.1 then (if ((q2.2.1 x0).1 : Int) = 10 then (G 105 [.inr (.inr x0), .inl x4, .inl 4] q2.2).bind fun q3 => if ((q3.2.1 x0).1 : Int) = 10 then (G 102 [.inr (.inr x0), .inl 6] q3.2).bind fun q4 => if (q4.1 : Int) < q3.1 then (if (0 : Int) = 0 ∨ (0 : Int) = 1 then some (0, q4.2) else none) else (K 216 [some (.inr (.inr x0)), some (.inl x1), some (.inl x5), some (.inl q1.1), some (.inl x4), none, some (.inl 0), some (.inl 0), none] [] q4.2) else none else none) else (K 216 [some (.inr (.inr x0)), some (.inl x1), some (.inl x5), some (.inl q1.1), some (.inl x4), none, some (.inl 0), some (.inl 0), none] [] q2.2) else none else none)) (zi_run zt_147 G n)) := zi_run_succ.trans ze_147_145
set_option maxRecDepth 20000 in
theorem ze_147_216 {G : Nat → List zV → zM → zR} {K : Nat → zL → List zV → zM → zR} {x0 x1 x2 x3 x4 x6 x7 : Int} {σ : zM} : zi_fr zt_147 G K 600 216 [some (.inr (.inr x0)), some (.inl x1), some (.inl x2), some (.inl x3), some (.inl x4), none, some (.inl x6), some (.inl x7), none] [] σ = (if ((σ.1 x0).1 : Int) = 10 then (G 105 [.inr (.inr x0), .inl x4, .inl 4] σ).bind fun q1 => if (x7 : Int) < q1.1 then (if ((q1.2.1 x0).1 : Int) = 10 then (G 106 [.inr (.inr x0), .inl x4, .inl x7] q1.2).bind fun q9 => if (q9.1 : Int) < 0 then (K 216 [some (.inr (.inr x0)), some (.inl x1), some (.inl x2), some (.inl x3), some (.inl x4), none, some (.inl (zi_w (x6 + 0))), some (.inl (zi_w (x7 + 1))), none] [] q9.2) else (K 216 [some (.inr (.inr x0)), some (.inl x1), some (.inl x2), some (.inl x3), some (.inl x4), none, some (.inl (zi_w (x6 + 1))), some (.inl (zi_w (x7 + 1))), none] [] q9.2) else none) else (if ((q1.2.1 x0).1 : Int) = 10 then (G 105 [.inr (.inr x0), .inl x4, .inl 4] q1.2).bind fun q2 => if ((q2.2.1 x0).1 : Int) = 10 then (G 105 [.inr (.inr x0), .inl x4, .inl 3] q2.2).bind fun q3 => if (x6 : Int) = (zi_w (q2.1 - q3.1)) then (if ((q3.2.1 x0).1 : Int) = 10 then (G 105 [.inr (.inr x0), .inl x4, .inl 4] q3.2).bind fun q4 => if ((q4.2.1 x0).1 : Int) = 10 then (G 106 [.inr (.inr x0), .inl x4, .inl q4.1] q4.2).bind fun q5 => if (q5.1 : Int) = (-4) then (if ((q5.2.1 x0).1 : Int) = 10 then (G 105 [.inr (.inr x0), .inl x4, .inl 3] q5.2).bind fun q6 => if (0 : Int) < q6.1 then (if ((q6.2.1 x0).1 : Int) = 10 then (G 105 [.inr (.inr x0), .inl x4, .inl 3] q6.2).bind fun q7 => if ((q7.2.1 x0).1 : Int) = 10 then (G 106 [.inr (.inr x0), .inl x4, .inl (zi_w (q7.1 - 1))] q7.2).bind fun q8 => if (q8.1 : Int) = (-4) then (K 13 [some (.inr (.inr x0)), some (.inl x1), some (.inl x2), some (.inl x3), some (.inl (zi_w (x4 + 1))), none, none, none, none] [] q8.2) else (if (0 : Int) = 0 ∨ (0 : Int) = 1 then some (0, q8.2) else none) else none else none) else (K 13 [some (.inr (.inr x0)), some (.inl x1), some (.inl x2), some (.inl x3), some (.inl (zi_w (x4 + 1))), none, none, none, none] [] q6.2) else none) else (if (0 : Int) = 0 ∨ (0 : Int) = 1 then some (0, q5.2) else none) else none else none) else (if (0 : Int) = 0 ∨ (0 : Int) = 1 then some (0, q3.2) else none) else none else none) else none) := rfl
theorem zk_147_216 {G : Nat → List zV → zM → zR} {n : Nat} {x0 x1 x2 x3 x4 x6 x7 : Int} {σ : zM} : zi_run zt_147 G (n + 1) 216 [some (.inr (.inr x0)), some (.inl x1), some (.inl x2), some (.inl x3), some (.inl x4), none, some (.inl x6), some (.inl x7), none] [] σ = ((fun (K : Nat → zL → List zV → zM → zR) => if ((σ.1 x0).1 : Int) = 10 then (G 105 [.inr (.inr x0), .inl x4, .inl 4] σ).bind fun q1 => if (x7 : Int) < q1.1 then (if ((q1.2.1 x0).1 : Int) = 10 then (G 106 [.inr (.inr x0), .inl x4, .inl x7] q1.2).bind fun q9 => if (q9.1 : Int) < 0 then (K 216 [some (.inr (.inr x0)), some (.inl x1), some (.inl x2), some (.inl x3), some (.inl x4), none, some (.inl (zi_w (x6 + 0))), some (.inl (zi_w (x7 + 1))), none] [] q9.2) else (K 216 [some (.inr (.inr x0)), some (.inl x1), some (.inl x2), some (.inl x3), some (.inl x4), none, some (.inl (zi_w (x6 + 1))), some (.inl (zi_w (x7 + 1))), none] [] q9.2) else none) else (if ((q1.2.1 x0).1 : Int) = 10 then (G 105 [.inr (.inr x0), .inl x4, .inl 4] q1.2).bind fun q2 => if ((q2.2.1 x0).1 : Int) = 10 then (G 105 [.inr (.inr x0), .inl x4, .inl 3] q2.2).bind fun q3 => if (x6 : Int) = (zi_w (q2.1 - q3.1)) then (if ((q3.2.1 x0).1 : Int) = 10 then (G 105 [.inr (.inr x0), .inl x4, .inl 4] q3.2).bind fun q4 => if ((q4.2.1 x0).1 : Int) = 10 then (G 106 [.inr (.inr x0), .inl x4, .inl q4.1] q4.2).bind fun q5 => if (q5.1 : Int) = (-4) then (if ((q5.2.1 x0).1 : Int) = 10 then (G 105 [.inr (.inr x0), .inl x4, .inl 3] q5.2).bind fun q6 => if (0 : Int) < q6.1 then (if ((q6.2.1 x0).1 : Int) = 10 then (G 105 [.inr (.inr x0), .inl x4, .inl 3] q6.2).bind fun q7 => if ((q7.2.1 x0).1 : Int) = 10 then (G 106 [.inr (.inr x0), .inl x4, .inl (zi_w (q7.1 - 1))] q7.2).bind fun q8 => if (q8.1 : Int) = (-4) then (K 13 [some (.inr (.inr x0)), some (.inl x1), some (.inl x2), some (.inl x3), some (.inl (zi_w (x4 + 1))), none, none, none, none] [] q8.2) else (if (0 : Int) = 0 ∨ (0 : Int) = 1 then some (0, q8.2) else none) else none else none) else (K 13 [some (.inr (.inr x0)), some (.inl x1), some (.inl x2), some (.inl x3), some (.inl (zi_w (x4 + 1))), none, none, none, none] [] q6.2) else none) else (if (0 : Int) = 0 ∨ (0 : Int) = 1 then some (0, q5.2) else none) else none else none) else (if (0 : Int) = 0 ∨ (0 : Int) = 1 then some (0, q3.2) else none) else none else none) else none) (zi_run zt_147 G n)) := zi_run_succ.trans ze_147_216
set_option maxRecDepth 20000 in
theorem ze_147_346 {G : Nat → List zV → zM → zR} {K : Nat → zL → List zV → zM → zR} {x0 x4 : Int} {σ : zM} : zi_fr zt_147 G K 600 346 [some (.inr (.inr x0)), none, none, none, some (.inl x4), none, none, none, none] [] σ = (if ((σ.1 x0).1 : Int) = 10 then (G 102 [.inr (.inr x0), .inl 0] σ).bind fun q1 => if (x4 : Int) < q1.1 then (K 362 [some (.inr (.inr x0)), none, none, none, some (.inl x4), some (.inl (-1)), some (.inl 0), none, none] [] q1.2) else (if ((q1.2.1 x0).1 : Int) = 10 then (G 110 [.inr (.inr x0), .inl 0] q1.2).bind fun q2 => if ((q2.2.1 x0).1 : Int) = 10 then (G 110 [.inr (.inr x0), .inl 1] q2.2).bind fun q3 => if ((q3.2.1 x0).1 : Int) = 10 then (G 107 [.inr (.inr x0), .inl q2.1, .inl q3.1, .inl 2] q3.2).bind fun q4 => if (q4.1 : Int) = 1 then (if ((q4.2.1 x0).1 : Int) = 10 then (G 110 [.inr (.inr x0), .inl 3] q4.2).bind fun q5 => if (q5.1 : Int) < 0 then (if (0 : Int) = 0 ∨ (0 : Int) = 1 then some (0, q5.2) else none) else (if (1 : Int) = 0 ∨ (1 : Int) = 1 then some (1, q5.2) else none) else none) else (if (0 : Int) = 0 ∨ (0 : Int) = 1 then some (0, q4.2) else none) else none else none else none) else none) := rfl
theorem zk_147_346 {G : Nat → List zV → zM → zR} {n : Nat} {x0 x4 : Int} {σ : zM} : zi_run zt_147 G (n + 1) 346 [some (.inr (.inr x0)), none, none, none, some (.inl x4), none, none, none, none] [] σ = ((fun (K : Nat → zL → List zV → zM → zR) => if ((σ.1 x0).1 : Int) = 10 then (G 102 [.inr (.inr x0), .inl 0] σ).bind fun q1 => if (x4 : Int) < q1.1 then (K 362 [some (.inr (.inr x0)), none, none, none, some (.inl x4), some (.inl (-1)), some (.inl 0), none, none] [] q1.2) else (if ((q1.2.1 x0).1 : Int) = 10 then (G 110 [.inr (.inr x0), .inl 0] q1.2).bind fun q2 => if ((q2.2.1 x0).1 : Int) = 10 then (G 110 [.inr (.inr x0), .inl 1] q2.2).bind fun q3 => if ((q3.2.1 x0).1 : Int) = 10 then (G 107 [.inr (.inr x0), .inl q2.1, .inl q3.1, .inl 2] q3.2).bind fun q4 => if (q4.1 : Int) = 1 then (if ((q4.2.1 x0).1 : Int) = 10 then (G 110 [.inr (.inr x0), .inl 3] q4.2).bind fun q5 => if (q5.1 : Int) < 0 then (if (0 : Int) = 0 ∨ (0 : Int) = 1 then some (0, q5.2) else none) else (if (1 : Int) = 0 ∨ (1 : Int) = 1 then some (1, q5.2) else none) else none) else (if (0 : Int) = 0 ∨ (0 : Int) = 1 then some (0, q4.2) else none) else none else none else none) else none) (zi_run zt_147 G n)) := zi_run_succ.trans ze_147_346
set_option maxRecDepth 20000 in
theorem ze_147_362 {G : Nat → List zV → zM → zR} {K : Nat → zL → List zV → zM → zR} {x0 x4 x5 x6 : Int} {σ : zM} : zi_fr zt_147 G K 600 362 [some (.inr (.inr x0)), none, none, none, some (.inl x4), some (.inl x5), some (.inl x6), none, none] [] σ = (if ((σ.1 x0).1 : Int) = 10 then (G 104 [.inr (.inr x0), .inl x4, .inl 0] σ).bind fun q1 => if (q1.1 : Int) < x6 then (K 346 [some (.inr (.inr x0)), none, none, none, some (.inl (zi_w (x4 + 1))), none, none, none, none] [] q1.2) else (if ((q1.2.1 x0).1 : Int) = 10 then (G 107 [.inr (.inr x0), .inl x4, .inl x6, .inl 0] q1.2).bind fun q2 => if (q2.1 : Int) < 0 then (K 362 [some (.inr (.inr x0)), none, none, none, some (.inl x4), some (.inl x5), some (.inl (zi_w (x6 + 1))), none, none] [] q2.2) else (if ((q2.2.1 x0).1 : Int) = 10 then (G 107 [.inr (.inr x0), .inl x4, .inl x6, .inl 2] q2.2).bind fun q3 => if (q3.1 : Int) = 0 then (K 362 [some (.inr (.inr x0)), none, none, none, some (.inl x4), some (.inl x5), some (.inl (zi_w (x6 + 1))), none, none] [] q3.2) else (if ((q3.2.1 x0).1 : Int) = 10 then (G 107 [.inr (.inr x0), .inl x4, .inl x6, .inl 1] q3.2).bind fun q4 => if (x5 : Int) < (zi_w ((zi_w (4096 * q2.1)) + q4.1)) then (if ((q4.2.1 x0).1 : Int) = 10 then (G 107 [.inr (.inr x0), .inl x4, .inl x6, .inl 1] q4.2).bind fun q5 => if ((q5.2.1 x0).1 : Int) = 10 then (G 108 [.inr (.inr x0), .inl q2.1, .inl q5.1] q5.2).bind fun q6 => if (q6.1 : Int) = x6 then (if ((q6.2.1 x0).1 : Int) = 10 then (G 105 [.inr (.inr x0), .inl q2.1, .inl 0] q6.2).bind fun q7 => if (q7.1 : Int) = x4 then (if ((q7.2.1 x0).1 : Int) = 10 then (G 104 [.inr (.inr x0), .inl x4, .inl 0] q7.2).bind fun q8 => if (x6 : Int) < q8.1 then (if ((q8.2.1 x0).1 : Int) = 10 then (G 107 [.inr (.inr x0), .inl x4, .inl x6, .inl 1] q8.2).bind fun q9 => if ((q9.2.1 x0).1 : Int) = 10 then (G 106 [.inr (.inr x0), .inl q2.1, .inl q9.1] q9.2).bind fun q10 => if (q10.1 : Int) = x6 then (K 362 [some (.inr (.inr x0)), none, none, none, some (.inl x4), some (.inl (zi_w ((zi_w (4096 * q2.1)) + q4.1))), some (.inl (zi_w (x6 + 1))), none, none] [] q10.2) else (if (0 : Int) = 0 ∨ (0 : Int) = 1 then some (0, q10.2) else none) else none else none) else (K 362 [some (.inr (.inr x0)), none, none, none, some (.inl x4), some (.inl (zi_w ((zi_w (4096 * q2.1)) + q4.1))), some (.inl (zi_w (x6 + 1))), none, none] [] q8.2) else none) else (if (0 : Int) = 0 ∨ (0 : Int) = 1 then some (0, q7.2) else none) else none) else (if (0 : Int) = 0 ∨ (0 : Int) = 1 then some (0, q6.2) else none) else none else none) else (if (0 : Int) = 0 ∨ (0 : Int) = 1 then some (0, q4.2) else none) else none) else none) else none) else none) := rfl
theorem zk_147_362 {G : Nat → List zV → zM → zR} {n : Nat} {x0 x4 x5 x6 : Int} {σ : zM} : zi_run zt_147 G (n + 1) 362 [some (.inr (.inr x0)), none, none, none, some (.inl x4), some (.inl x5), some (.inl x6), none, none] [] σ = ((fun (K : Nat → zL → List zV → zM → zR) => if ((σ.1 x0).1 : Int) = 10 then (G 104 [.inr (.inr x0), .inl x4, .inl 0] σ).bind fun q1 => if (q1.1 : Int) < x6 then (K 346 [some (.inr (.inr x0)), none, none, none, some (.inl (zi_w (x4 + 1))), none, none, none, none] [] q1.2) else (if ((q1.2.1 x0).1 : Int) = 10 then (G 107 [.inr (.inr x0), .inl x4, .inl x6, .inl 0] q1.2).bind fun q2 => if (q2.1 : Int) < 0 then (K 362 [some (.inr (.inr x0)), none, none, none, some (.inl x4), some (.inl x5), some (.inl (zi_w (x6 + 1))), none, none] [] q2.2) else (if ((q2.2.1 x0).1 : Int) = 10 then (G 107 [.inr (.inr x0), .inl x4, .inl x6, .inl 2] q2.2).bind fun q3 => if (q3.1 : Int) = 0 then (K 362 [some (.inr (.inr x0)), none, none, none, some (.inl x4), some (.inl x5), some (.inl (zi_w (x6 + 1))), none, none] [] q3.2) else (if ((q3.2.1 x0).1 : Int) = 10 then (G 107 [.inr (.inr x0), .inl x4, .inl x6, .inl 1] q3.2).bind fun q4 => if (x5 : Int) < (zi_w ((zi_w (4096 * q2.1)) + q4.1)) then (if ((q4.2.1 x0).1 : Int) = 10 then (G 107 [.inr (.inr x0), .inl x4, .inl x6, .inl 1] q4.2).bind fun q5 => if ((q5.2.1 x0).1 : Int) = 10 then (G 108 [.inr (.inr x0), .inl q2.1, .inl q5.1] q5.2).bind fun q6 => if (q6.1 : Int) = x6 then (if ((q6.2.1 x0).1 : Int) = 10 then (G 105 [.inr (.inr x0), .inl q2.1, .inl 0] q6.2).bind fun q7 => if (q7.1 : Int) = x4 then (if ((q7.2.1 x0).1 : Int) = 10 then (G 104 [.inr (.inr x0), .inl x4, .inl 0] q7.2).bind fun q8 => if (x6 : Int) < q8.1 then (if ((q8.2.1 x0).1 : Int) = 10 then (G 107 [.inr (.inr x0), .inl x4, .inl x6, .inl 1] q8.2).bind fun q9 => if ((q9.2.1 x0).1 : Int) = 10 then (G 106 [.inr (.inr x0), .inl q2.1, .inl q9.1] q9.2).bind fun q10 => if (q10.1 : Int) = x6 then (K 362 [some (.inr (.inr x0)), none, none, none, some (.inl x4), some (.inl (zi_w ((zi_w (4096 * q2.1)) + q4.1))), some (.inl (zi_w (x6 + 1))), none, none] [] q10.2) else (if (0 : Int) = 0 ∨ (0 : Int) = 1 then some (0, q10.2) else none) else none else none) else (K 362 [some (.inr (.inr x0)), none, none, none, some (.inl x4), some (.inl (zi_w ((zi_w (4096 * q2.1)) + q4.1))), some (.inl (zi_w (x6 + 1))), none, none] [] q8.2) else none) else (if (0 : Int) = 0 ∨ (0 : Int) = 1 then some (0, q7.2) else none) else none) else (if (0 : Int) = 0 ∨ (0 : Int) = 1 then some (0, q6.2) else none) else none else none) else (if (0 : Int) = 0 ∨ (0 : Int) = 1 then some (0, q4.2) else none) else none) else none) else none) else none) (zi_run zt_147 G n)) := zi_run_succ.trans ze_147_362
-- FoldedRowsLaw.nested(LFoldedRows;)Z
set_option maxRecDepth 20000 in
theorem ze_148_0 {G : Nat → List zV → zM → zR} {K : Nat → zL → List zV → zM → zR} {x0 : Int} {σ : zM} : zi_fr zt_148 G K 600 0 [some (.inr (.inr x0)), none, none] [] σ = (K 2 [some (.inr (.inr x0)), some (.inl 0), none] [] σ) := rfl
theorem zm_148 {d : Nat} {x0 : Int} {σ : zM} : zG (d + 1) 148 [.inr (.inr x0)] σ = ((fun (G : Nat → List zV → zM → zR) (K : Nat → zL → List zV → zM → zR) => K 2 [some (.inr (.inr x0)), some (.inl 0), none] [] σ) (zG d) (zi_run zt_148 (zG d) 19999)) := (zG_eq zt_148 rfl rfl rfl).trans ze_148_0
set_option maxRecDepth 20000 in
theorem ze_148_2 {G : Nat → List zV → zM → zR} {K : Nat → zL → List zV → zM → zR} {x0 x1 : Int} {σ : zM} : zi_fr zt_148 G K 600 2 [some (.inr (.inr x0)), some (.inl x1), none] [] σ = (if ((σ.1 x0).1 : Int) = 10 then (G 102 [.inr (.inr x0), .inl 4] σ).bind fun q1 => if (x1 : Int) < q1.1 then (if ((q1.2.1 x0).1 : Int) = 10 then (G 109 [.inr (.inr x0), .inl x1, .inl 0] q1.2).bind fun q2 => if ((q2.2.1 x0).1 : Int) = 10 then (G 109 [.inr (.inr x0), .inl x1, .inl 1] q2.2).bind fun q3 => if (q2.1 : Int) < q3.1 then (if ((q3.2.1 x0).1 : Int) = 10 then (G 109 [.inr (.inr x0), .inl x1, .inl 1] q3.2).bind fun q4 => if ((q4.2.1 x0).1 : Int) = 10 then (G 102 [.inr (.inr x0), .inl 0] q4.2).bind fun q5 => if (q4.1 : Int) < q5.1 then (K 46 [some (.inr (.inr x0)), some (.inl x1), some (.inl (zi_w (x1 + 1)))] [] q5.2) else (if (0 : Int) = 0 ∨ (0 : Int) = 1 then some (0, q5.2) else none) else none else none) else (if (0 : Int) = 0 ∨ (0 : Int) = 1 then some (0, q3.2) else none) else none else none) else (if (1 : Int) = 0 ∨ (1 : Int) = 1 then some (1, q1.2) else none) else none) := rfl
theorem zk_148_2 {G : Nat → List zV → zM → zR} {n : Nat} {x0 x1 : Int} {σ : zM} : zi_run zt_148 G (n + 1) 2 [some (.inr (.inr x0)), some (.inl x1), none] [] σ = ((fun (K : Nat → zL → List zV → zM → zR) => if ((σ.1 x0).1 : Int) = 10 then (G 102 [.inr (.inr x0), .inl 4] σ).bind fun q1 => if (x1 : Int) < q1.1 then (if ((q1.2.1 x0).1 : Int) = 10 then (G 109 [.inr (.inr x0), .inl x1, .inl 0] q1.2).bind fun q2 => if ((q2.2.1 x0).1 : Int) = 10 then (G 109 [.inr (.inr x0), .inl x1, .inl 1] q2.2).bind fun q3 => if (q2.1 : Int) < q3.1 then (if ((q3.2.1 x0).1 : Int) = 10 then (G 109 [.inr (.inr x0), .inl x1, .inl 1] q3.2).bind fun q4 => if ((q4.2.1 x0).1 : Int) = 10 then (G 102 [.inr (.inr x0), .inl 0] q4.2).bind fun q5 => if (q4.1 : Int) < q5.1 then (K 46 [some (.inr (.inr x0)), some (.inl x1), some (.inl (zi_w (x1 + 1)))] [] q5.2) else (if (0 : Int) = 0 ∨ (0 : Int) = 1 then some (0, q5.2) else none) else none else none) else (if (0 : Int) = 0 ∨ (0 : Int) = 1 then some (0, q3.2) else none) else none else none) else (if (1 : Int) = 0 ∨ (1 : Int) = 1 then some (1, q1.2) else none) else none) (zi_run zt_148 G n)) := zi_run_succ.trans ze_148_2
set_option maxRecDepth 20000 in
theorem ze_148_46 {G : Nat → List zV → zM → zR} {K : Nat → zL → List zV → zM → zR} {x0 x1 x2 : Int} {σ : zM} : zi_fr zt_148 G K 600 46 [some (.inr (.inr x0)), some (.inl x1), some (.inl x2)] [] σ = (if ((σ.1 x0).1 : Int) = 10 then (G 102 [.inr (.inr x0), .inl 4] σ).bind fun q1 => if (x2 : Int) < q1.1 then (if ((q1.2.1 x0).1 : Int) = 10 then (G 109 [.inr (.inr x0), .inl x1, .inl 0] q1.2).bind fun q2 => if ((q2.2.1 x0).1 : Int) = 10 then (G 109 [.inr (.inr x0), .inl x2, .inl 0] q2.2).bind fun q3 => if (q3.1 : Int) < q2.1 then (if (0 : Int) = 0 ∨ (0 : Int) = 1 then some (0, q3.2) else none) else (if ((q3.2.1 x0).1 : Int) = 10 then (G 109 [.inr (.inr x0), .inl x1, .inl 0] q3.2).bind fun q4 => if ((q4.2.1 x0).1 : Int) = 10 then (G 109 [.inr (.inr x0), .inl x2, .inl 0] q4.2).bind fun q5 => if (q4.1 : Int) = q5.1 then (if ((q5.2.1 x0).1 : Int) = 10 then (G 109 [.inr (.inr x0), .inl x1, .inl 1] q5.2).bind fun q11 => if ((q11.2.1 x0).1 : Int) = 10 then (G 109 [.inr (.inr x0), .inl x2, .inl 1] q11.2).bind fun q12 => if (q12.1 : Int) < q11.1 then (if ((q12.2.1 x0).1 : Int) = 10 then (G 109 [.inr (.inr x0), .inl x1, .inl 0] q12.2).bind fun q13 => if ((q13.2.1 x0).1 : Int) = 10 then (G 109 [.inr (.inr x0), .inl x1, .inl 1] q13.2).bind fun q14 => if ((q14.2.1 x0).1 : Int) = 10 then (G 109 [.inr (.inr x0), .inl x2, .inl 0] q14.2).bind fun q15 => if ((q15.2.1 x0).1 : Int) = 10 then (G 109 [.inr (.inr x0), .inl x2, .inl 1] q15.2).bind fun q16 => (G 142 [.inl q13.1, .inl q14.1, .inl q15.1, .inl q16.1] q16.2).bind fun q17 => if (q17.1 : Int) = 0 then (K 46 [some (.inr (.inr x0)), some (.inl x1), some (.inl (zi_w (x2 + 1)))] [] q17.2) else (if (0 : Int) = 0 ∨ (0 : Int) = 1 then some (0, q17.2) else none) else none else none else none else none) else (if (0 : Int) = 0 ∨ (0 : Int) = 1 then some (0, q12.2) else none) else none else none) else (if ((q5.2.1 x0).1 : Int) = 10 then (G 109 [.inr (.inr x0), .inl x1, .inl 0] q5.2).bind fun q6 => if ((q6.2.1 x0).1 : Int) = 10 then (G 109 [.inr (.inr x0), .inl x1, .inl 1] q6.2).bind fun q7 => if ((q7.2.1 x0).1 : Int) = 10 then (G 109 [.inr (.inr x0), .inl x2, .inl 0] q7.2).bind fun q8 => if ((q8.2.1 x0).1 : Int) = 10 then (G 109 [.inr (.inr x0), .inl x2, .inl 1] q8.2).bind fun q9 => (G 142 [.inl q6.1, .inl q7.1, .inl q8.1, .inl q9.1] q9.2).bind fun q10 => if (q10.1 : Int) = 0 then (K 46 [some (.inr (.inr x0)), some (.inl x1), some (.inl (zi_w (x2 + 1)))] [] q10.2) else (if (0 : Int) = 0 ∨ (0 : Int) = 1 then some (0, q10.2) else none) else none else none else none else none) else none else none) else none else none) else (K 2 [some (.inr (.inr x0)), some (.inl (zi_w (x1 + 1))), none] [] q1.2) else none) := rfl
theorem zk_148_46 {G : Nat → List zV → zM → zR} {n : Nat} {x0 x1 x2 : Int} {σ : zM} : zi_run zt_148 G (n + 1) 46 [some (.inr (.inr x0)), some (.inl x1), some (.inl x2)] [] σ = ((fun (K : Nat → zL → List zV → zM → zR) => if ((σ.1 x0).1 : Int) = 10 then (G 102 [.inr (.inr x0), .inl 4] σ).bind fun q1 => if (x2 : Int) < q1.1 then (if ((q1.2.1 x0).1 : Int) = 10 then (G 109 [.inr (.inr x0), .inl x1, .inl 0] q1.2).bind fun q2 => if ((q2.2.1 x0).1 : Int) = 10 then (G 109 [.inr (.inr x0), .inl x2, .inl 0] q2.2).bind fun q3 => if (q3.1 : Int) < q2.1 then (if (0 : Int) = 0 ∨ (0 : Int) = 1 then some (0, q3.2) else none) else (if ((q3.2.1 x0).1 : Int) = 10 then (G 109 [.inr (.inr x0), .inl x1, .inl 0] q3.2).bind fun q4 => if ((q4.2.1 x0).1 : Int) = 10 then (G 109 [.inr (.inr x0), .inl x2, .inl 0] q4.2).bind fun q5 => if (q4.1 : Int) = q5.1 then (if ((q5.2.1 x0).1 : Int) = 10 then (G 109 [.inr (.inr x0), .inl x1, .inl 1] q5.2).bind fun q11 => if ((q11.2.1 x0).1 : Int) = 10 then (G 109 [.inr (.inr x0), .inl x2, .inl 1] q11.2).bind fun q12 => if (q12.1 : Int) < q11.1 then (if ((q12.2.1 x0).1 : Int) = 10 then (G 109 [.inr (.inr x0), .inl x1, .inl 0] q12.2).bind fun q13 => if ((q13.2.1 x0).1 : Int) = 10 then (G 109 [.inr (.inr x0), .inl x1, .inl 1] q13.2).bind fun q14 => if ((q14.2.1 x0).1 : Int) = 10 then (G 109 [.inr (.inr x0), .inl x2, .inl 0] q14.2).bind fun q15 => if ((q15.2.1 x0).1 : Int) = 10 then (G 109 [.inr (.inr x0), .inl x2, .inl 1] q15.2).bind fun q16 => (G 142 [.inl q13.1, .inl q14.1, .inl q15.1, .inl q16.1] q16.2).bind fun q17 => if (q17.1 : Int) = 0 then (K 46 [some (.inr (.inr x0)), some (.inl x1), some (.inl (zi_w (x2 + 1)))] [] q17.2) else (if (0 : Int) = 0 ∨ (0 : Int) = 1 then some (0, q17.2) else none) else none else none else none else none) else (if (0 : Int) = 0 ∨ (0 : Int) = 1 then some (0, q12.2) else none) else none else none) else (if ((q5.2.1 x0).1 : Int) = 10 then (G 109 [.inr (.inr x0), .inl x1, .inl 0] q5.2).bind fun q6 => if ((q6.2.1 x0).1 : Int) = 10 then (G 109 [.inr (.inr x0), .inl x1, .inl 1] q6.2).bind fun q7 => if ((q7.2.1 x0).1 : Int) = 10 then (G 109 [.inr (.inr x0), .inl x2, .inl 0] q7.2).bind fun q8 => if ((q8.2.1 x0).1 : Int) = 10 then (G 109 [.inr (.inr x0), .inl x2, .inl 1] q8.2).bind fun q9 => (G 142 [.inl q6.1, .inl q7.1, .inl q8.1, .inl q9.1] q9.2).bind fun q10 => if (q10.1 : Int) = 0 then (K 46 [some (.inr (.inr x0)), some (.inl x1), some (.inl (zi_w (x2 + 1)))] [] q10.2) else (if (0 : Int) = 0 ∨ (0 : Int) = 1 then some (0, q10.2) else none) else none else none else none else none) else none else none) else none else none) else (K 2 [some (.inr (.inr x0)), some (.inl (zi_w (x1 + 1))), none] [] q1.2) else none) (zi_run zt_148 G n)) := zi_run_succ.trans ze_148_46
-- FoldedRowsLaw.acts(LFoldedRows;I)Z
set_option maxRecDepth 20000 in
theorem ze_149_0 {G : Nat → List zV → zM → zR} {K : Nat → zL → List zV → zM → zR} {x0 x1 : Int} {σ : zM} : zi_fr zt_149 G K 600 0 [some (.inr (.inr x0)), some (.inl x1), none, none, none] [] σ = (if ((σ.1 x0).1 : Int) = 10 then (G 102 [.inr (.inr x0), .inl 10] σ).bind fun q1 => if ((q1.2.1 x0).1 : Int) = 10 then (G 102 [.inr (.inr x0), .inl 1] q1.2).bind fun q2 => if ((q2.2.1 x0).1 : Int) = 10 then (G 102 [.inr (.inr x0), .inl 0] q2.2).bind fun q3 => (G 138 [.inl x1, .inl 12] q3.2).bind fun q4 => if q4.1 = 0 then ((G 140 [.inl (zi_shr x1 4)] q4.2).bind fun q30 => if ((q30.2.1 x0).1 : Int) = 10 then (G 114 [.inr (.inr x0), .inl q30.1] q30.2).bind fun q31 => if (0 : Int) < q31.1 then (if (1 : Int) = 0 ∨ (1 : Int) = 1 then some (1, q31.2) else none) else (if (0 : Int) = 0 ∨ (0 : Int) = 1 then some (0, q31.2) else none) else none) else (if q4.1 = 1 then ((G 140 [.inl (zi_shr x1 4)] q4.2).bind fun q28 => if ((q28.2.1 x0).1 : Int) = 10 then (G 114 [.inr (.inr x0), .inl q28.1] q28.2).bind fun q29 => if (0 : Int) < q29.1 then (if (1 : Int) = 0 ∨ (1 : Int) = 1 then some (1, q29.2) else none) else (if (0 : Int) = 0 ∨ (0 : Int) = 1 then some (0, q29.2) else none) else none) else (if q4.1 = 2 then ((G 140 [.inl (zi_shr x1 4)] q4.2).bind fun q26 => if ((q26.2.1 x0).1 : Int) = 10 then (G 114 [.inr (.inr x0), .inl q26.1] q26.2).bind fun q27 => if (0 : Int) < q27.1 then (if (1 : Int) = 0 ∨ (1 : Int) = 1 then some (1, q27.2) else none) else (if (0 : Int) = 0 ∨ (0 : Int) = 1 then some (0, q27.2) else none) else none) else (if q4.1 = 3 then (if ((q4.2.1 x0).1 : Int) = 10 then (G 115 [.inr (.inr x0)] q4.2).bind fun q25 => if (q25.1 : Int) < 0 then (if (0 : Int) = 0 ∨ (0 : Int) = 1 then some (0, q25.2) else none) else (if (1 : Int) = 0 ∨ (1 : Int) = 1 then some (1, q25.2) else none) else none) else (if q4.1 = 4 then (if ((q4.2.1 x0).1 : Int) = 10 then (G 116 [.inr (.inr x0)] q4.2).bind fun q24 => if (0 : Int) < q24.1 then (if (1 : Int) = 0 ∨ (1 : Int) = 1 then some (1, q24.2) else none) else (if (0 : Int) = 0 ∨ (0 : Int) = 1 then some (0, q24.2) else none) else none) else (if q4.1 = 5 then ((G 138 [.inl (zi_shr x1 4), .inl 2] q4.2).bind fun q22 => if ((q22.2.1 x0).1 : Int) = 10 then (G 111 [.inr (.inr x0), .inl q22.1] q22.2).bind fun q23 => if (0 : Int) = 0 ∨ (0 : Int) = 1 then some (0, q23.2) else none else none) else (if q4.1 = 6 then ((G 138 [.inl (zi_shr x1 4), .inl 7] q4.2).bind fun q20 => if ((q20.2.1 x0).1 : Int) = 10 then (G 112 [.inr (.inr x0), .inl (zi_w (q20.1 - 3))] q20.2).bind fun q21 => if (0 : Int) = 0 ∨ (0 : Int) = 1 then some (0, q21.2) else none else none) else (if q4.1 = 7 then ((G 138 [.inl (zi_shr x1 4), .inl 37] q4.2).bind fun q18 => if ((q18.2.1 x0).1 : Int) = 10 then (G 121 [.inr (.inr x0), .inl 0, .inl (zi_w (4 + q18.1))] q18.2).bind fun q19 => if (0 : Int) = 0 ∨ (0 : Int) = 1 then some (0, q19.2) else none else none) else (if q4.1 = 8 then ((G 138 [.inl (zi_shr x1 4), .inl 3] q4.2).bind fun q15 => (G 138 [.inl (zi_shr x1 6), .inl 8] q15.2).bind fun q16 => if ((q16.2.1 x0).1 : Int) = 10 then (G 121 [.inr (.inr x0), .inl (zi_w (1 + q15.1)), .inl q16.1] q16.2).bind fun q17 => if (0 : Int) = 0 ∨ (0 : Int) = 1 then some (0, q17.2) else none else none) else (if q4.1 = 9 then ((G 138 [.inl (zi_shr x1 4), .inl q3.1] q4.2).bind fun q12 => (G 138 [.inl (zi_shr x1 7), .inl q3.1] q12.2).bind fun q13 => if ((q13.2.1 x0).1 : Int) = 10 then (G 119 [.inr (.inr x0), .inl q12.1, .inl q13.1] q13.2).bind fun q14 => if (0 : Int) = 0 ∨ (0 : Int) = 1 then some (0, q14.2) else none else none) else (if q4.1 = 10 then (if ((q4.2.1 x0).1 : Int) = 10 then (G 102 [.inr (.inr x0), .inl 4] q4.2).bind fun q7 => (G 138 [.inl (zi_shr x1 4), .inl (zi_w (q7.1 + 1))] q7.2).bind fun q8 => (G 138 [.inl (zi_shr x1 8), .inl 3] q8.2).bind fun q9 => if (q9.1 : Int) = 0 then (if ((q9.2.1 x0).1 : Int) = 10 then (G 120 [.inr (.inr x0), .inl q8.1, .inl 0] q9.2).bind fun q11 => if (0 : Int) = 0 ∨ (0 : Int) = 1 then some (0, q11.2) else none else none) else (if ((q9.2.1 x0).1 : Int) = 10 then (G 120 [.inr (.inr x0), .inl q8.1, .inl 1] q9.2).bind fun q10 => if (0 : Int) = 0 ∨ (0 : Int) = 1 then some (0, q10.2) else none else none) else none) else ((G 138 [.inl (zi_shr x1 4), .inl 2] q4.2).bind fun q5 => if ((q5.2.1 x0).1 : Int) = 10 then (G 113 [.inr (.inr x0), .inl q5.1] q5.2).bind fun q6 => if (q1.1 : Int) < 0 then (if (1 : Int) = 0 ∨ (1 : Int) = 1 then some (1, q6.2) else none) else (if (q2.1 : Int) < 0 then (if (1 : Int) = 0 ∨ (1 : Int) = 1 then some (1, q6.2) else none) else (if (0 : Int) = 0 ∨ (0 : Int) = 1 then some (0, q6.2) else none)) else none))))))))))) else none else none else none) := rfl
theorem zm_149 {d : Nat} {x0 x1 : Int} {σ : zM} : zG (d + 1) 149 [.inr (.inr x0), .inl x1] σ = ((fun (G : Nat → List zV → zM → zR) (K : Nat → zL → List zV → zM → zR) => if ((σ.1 x0).1 : Int) = 10 then (G 102 [.inr (.inr x0), .inl 10] σ).bind fun q1 => if ((q1.2.1 x0).1 : Int) = 10 then (G 102 [.inr (.inr x0), .inl 1] q1.2).bind fun q2 => if ((q2.2.1 x0).1 : Int) = 10 then (G 102 [.inr (.inr x0), .inl 0] q2.2).bind fun q3 => (G 138 [.inl x1, .inl 12] q3.2).bind fun q4 => if q4.1 = 0 then ((G 140 [.inl (zi_shr x1 4)] q4.2).bind fun q30 => if ((q30.2.1 x0).1 : Int) = 10 then (G 114 [.inr (.inr x0), .inl q30.1] q30.2).bind fun q31 => if (0 : Int) < q31.1 then (if (1 : Int) = 0 ∨ (1 : Int) = 1 then some (1, q31.2) else none) else (if (0 : Int) = 0 ∨ (0 : Int) = 1 then some (0, q31.2) else none) else none) else (if q4.1 = 1 then ((G 140 [.inl (zi_shr x1 4)] q4.2).bind fun q28 => if ((q28.2.1 x0).1 : Int) = 10 then (G 114 [.inr (.inr x0), .inl q28.1] q28.2).bind fun q29 => if (0 : Int) < q29.1 then (if (1 : Int) = 0 ∨ (1 : Int) = 1 then some (1, q29.2) else none) else (if (0 : Int) = 0 ∨ (0 : Int) = 1 then some (0, q29.2) else none) else none) else (if q4.1 = 2 then ((G 140 [.inl (zi_shr x1 4)] q4.2).bind fun q26 => if ((q26.2.1 x0).1 : Int) = 10 then (G 114 [.inr (.inr x0), .inl q26.1] q26.2).bind fun q27 => if (0 : Int) < q27.1 then (if (1 : Int) = 0 ∨ (1 : Int) = 1 then some (1, q27.2) else none) else (if (0 : Int) = 0 ∨ (0 : Int) = 1 then some (0, q27.2) else none) else none) else (if q4.1 = 3 then (if ((q4.2.1 x0).1 : Int) = 10 then (G 115 [.inr (.inr x0)] q4.2).bind fun q25 => if (q25.1 : Int) < 0 then (if (0 : Int) = 0 ∨ (0 : Int) = 1 then some (0, q25.2) else none) else (if (1 : Int) = 0 ∨ (1 : Int) = 1 then some (1, q25.2) else none) else none) else (if q4.1 = 4 then (if ((q4.2.1 x0).1 : Int) = 10 then (G 116 [.inr (.inr x0)] q4.2).bind fun q24 => if (0 : Int) < q24.1 then (if (1 : Int) = 0 ∨ (1 : Int) = 1 then some (1, q24.2) else none) else (if (0 : Int) = 0 ∨ (0 : Int) = 1 then some (0, q24.2) else none) else none) else (if q4.1 = 5 then ((G 138 [.inl (zi_shr x1 4), .inl 2] q4.2).bind fun q22 => if ((q22.2.1 x0).1 : Int) = 10 then (G 111 [.inr (.inr x0), .inl q22.1] q22.2).bind fun q23 => if (0 : Int) = 0 ∨ (0 : Int) = 1 then some (0, q23.2) else none else none) else (if q4.1 = 6 then ((G 138 [.inl (zi_shr x1 4), .inl 7] q4.2).bind fun q20 => if ((q20.2.1 x0).1 : Int) = 10 then (G 112 [.inr (.inr x0), .inl (zi_w (q20.1 - 3))] q20.2).bind fun q21 => if (0 : Int) = 0 ∨ (0 : Int) = 1 then some (0, q21.2) else none else none) else (if q4.1 = 7 then ((G 138 [.inl (zi_shr x1 4), .inl 37] q4.2).bind fun q18 => if ((q18.2.1 x0).1 : Int) = 10 then (G 121 [.inr (.inr x0), .inl 0, .inl (zi_w (4 + q18.1))] q18.2).bind fun q19 => if (0 : Int) = 0 ∨ (0 : Int) = 1 then some (0, q19.2) else none else none) else (if q4.1 = 8 then ((G 138 [.inl (zi_shr x1 4), .inl 3] q4.2).bind fun q15 => (G 138 [.inl (zi_shr x1 6), .inl 8] q15.2).bind fun q16 => if ((q16.2.1 x0).1 : Int) = 10 then (G 121 [.inr (.inr x0), .inl (zi_w (1 + q15.1)), .inl q16.1] q16.2).bind fun q17 => if (0 : Int) = 0 ∨ (0 : Int) = 1 then some (0, q17.2) else none else none) else (if q4.1 = 9 then ((G 138 [.inl (zi_shr x1 4), .inl q3.1] q4.2).bind fun q12 => (G 138 [.inl (zi_shr x1 7), .inl q3.1] q12.2).bind fun q13 => if ((q13.2.1 x0).1 : Int) = 10 then (G 119 [.inr (.inr x0), .inl q12.1, .inl q13.1] q13.2).bind fun q14 => if (0 : Int) = 0 ∨ (0 : Int) = 1 then some (0, q14.2) else none else none) else (if q4.1 = 10 then (if ((q4.2.1 x0).1 : Int) = 10 then (G 102 [.inr (.inr x0), .inl 4] q4.2).bind fun q7 => (G 138 [.inl (zi_shr x1 4), .inl (zi_w (q7.1 + 1))] q7.2).bind fun q8 => (G 138 [.inl (zi_shr x1 8), .inl 3] q8.2).bind fun q9 => if (q9.1 : Int) = 0 then (if ((q9.2.1 x0).1 : Int) = 10 then (G 120 [.inr (.inr x0), .inl q8.1, .inl 0] q9.2).bind fun q11 => if (0 : Int) = 0 ∨ (0 : Int) = 1 then some (0, q11.2) else none else none) else (if ((q9.2.1 x0).1 : Int) = 10 then (G 120 [.inr (.inr x0), .inl q8.1, .inl 1] q9.2).bind fun q10 => if (0 : Int) = 0 ∨ (0 : Int) = 1 then some (0, q10.2) else none else none) else none) else ((G 138 [.inl (zi_shr x1 4), .inl 2] q4.2).bind fun q5 => if ((q5.2.1 x0).1 : Int) = 10 then (G 113 [.inr (.inr x0), .inl q5.1] q5.2).bind fun q6 => if (q1.1 : Int) < 0 then (if (1 : Int) = 0 ∨ (1 : Int) = 1 then some (1, q6.2) else none) else (if (q2.1 : Int) < 0 then (if (1 : Int) = 0 ∨ (1 : Int) = 1 then some (1, q6.2) else none) else (if (0 : Int) = 0 ∨ (0 : Int) = 1 then some (0, q6.2) else none)) else none))))))))))) else none else none else none) (zG d) (zi_run zt_149 (zG d) 19999)) := (zG_eq zt_149 rfl rfl rfl).trans ze_149_0
-- FoldedRowsLaw.takes(LFoldedRows;I)Z
set_option maxRecDepth 20000 in
theorem ze_150_0 {G : Nat → List zV → zM → zR} {K : Nat → zL → List zV → zM → zR} {x0 x1 : Int} {σ : zM} : zi_fr zt_150 G K 600 0 [some (.inr (.inr x0)), some (.inl x1), none, none, none, none, none, none, none] [] σ = ((G 146 [.inr (.inr x0)] σ).bind fun q1 => if ((q1.2.1 x0).1 : Int) = 10 then (G 102 [.inr (.inr x0), .inl 1] q1.2).bind fun q2 => (G 138 [.inl x1, .inl 5] q2.2).bind fun q3 => (G 138 [.inl (zi_shr x1 3), .inl 1000] q3.2).bind fun q4 => (G 149 [.inr (.inr x0), .inl (zi_w ((zi_w (q3.1 * 1)) + (zi_w (12 * q4.1))))] q4.2).bind fun q5 => if (q5.1 : Int) = 0 then (if (1 : Int) = 0 ∨ (1 : Int) = 1 then some (1, q5.2) else none) else ((G 146 [.inr (.inr x0)] q5.2).bind fun q6 => if ((q6.2.1 x0).1 : Int) = 10 then (G 117 [.inr (.inr x0)] q6.2).bind fun q7 => if (q7.1 : Int) < 0 then (if (0 : Int) = 0 ∨ (0 : Int) = 1 then some (0, q7.2) else none) else ((G 146 [.inr (.inr x0)] q7.2).bind fun q8 => if (q8.1 : Int) = q1.1 then (if ((q8.2.1 x0).1 : Int) = 10 then (G 102 [.inr (.inr x0), .inl 1] q8.2).bind fun q9 => if (q9.1 : Int) = q2.1 then (if ((q9.2.1 x0).1 : Int) = 10 then (G 118 [.inr (.inr x0)] q9.2).bind fun q10 => if (q10.1 : Int) < 0 then (if (0 : Int) = 0 ∨ (0 : Int) = 1 then some (0, q10.2) else none) else ((G 146 [.inr (.inr x0)] q10.2).bind fun q11 => if (q11.1 : Int) = q6.1 then (if ((q11.2.1 x0).1 : Int) = 10 then (G 110 [.inr (.inr x0), .inl 0] q11.2).bind fun q12 => if ((q12.2.1 x0).1 : Int) = 10 then (G 110 [.inr (.inr x0), .inl 1] q12.2).bind fun q13 => if ((q13.2.1 x0).1 : Int) = 10 then (G 111 [.inr (.inr x0), .inl 1] q13.2).bind fun q14 => if (q14.1 : Int) < 0 then (if ((q14.2.1 x0).1 : Int) = 10 then (G 110 [.inr (.inr x0), .inl 3] q14.2).bind fun q15 => if ((q15.2.1 x0).1 : Int) = 10 then (G 110 [.inr (.inr x0), .inl 2] q15.2).bind fun q16 => if ((q16.2.1 x0).1 : Int) = 10 then (G 112 [.inr (.inr x0), .inl 1] q16.2).bind fun q17 => if ((q17.2.1 x0).1 : Int) = 10 then (G 102 [.inr (.inr x0), .inl 2] q17.2).bind fun q18 => if ((zi_w (q15.1 + 1)) : Int) < q18.1 then (K 172 [some (.inr (.inr x0)), none, none, none, none, some (.inl q12.1), some (.inl q13.1), some (.inl q15.1), some (.inl q16.1)] [.inl (zi_w (q15.1 + 1)), .inl q17.1] q18.2) else (K 172 [some (.inr (.inr x0)), none, none, none, none, some (.inl q12.1), some (.inl q13.1), some (.inl q15.1), some (.inl q16.1)] [.inl q15.1, .inl q17.1] q18.2) else none else none else none else none) else (if ((q14.2.1 x0).1 : Int) = 10 then (G 111 [.inr (.inr x0), .inl 0] q14.2).bind fun q19 => if (q19.1 : Int) = q13.1 then (if ((q19.2.1 x0).1 : Int) = 10 then (G 110 [.inr (.inr x0), .inl 0] q19.2).bind fun q20 => if (q20.1 : Int) = q12.1 then (if ((q20.2.1 x0).1 : Int) = 10 then (G 110 [.inr (.inr x0), .inl 3] q20.2).bind fun q21 => if ((q21.2.1 x0).1 : Int) = 10 then (G 110 [.inr (.inr x0), .inl 2] q21.2).bind fun q22 => if ((q22.2.1 x0).1 : Int) = 10 then (G 112 [.inr (.inr x0), .inl 1] q22.2).bind fun q23 => if ((q23.2.1 x0).1 : Int) = 10 then (G 102 [.inr (.inr x0), .inl 2] q23.2).bind fun q24 => if ((zi_w (q21.1 + 1)) : Int) < q24.1 then (K 172 [some (.inr (.inr x0)), none, none, none, none, some (.inl q12.1), some (.inl q13.1), some (.inl q21.1), some (.inl q22.1)] [.inl (zi_w (q21.1 + 1)), .inl q23.1] q24.2) else (K 172 [some (.inr (.inr x0)), none, none, none, none, some (.inl q12.1), some (.inl q13.1), some (.inl q21.1), some (.inl q22.1)] [.inl q21.1, .inl q23.1] q24.2) else none else none else none else none) else (if (0 : Int) = 0 ∨ (0 : Int) = 1 then some (0, q20.2) else none) else none) else (if (0 : Int) = 0 ∨ (0 : Int) = 1 then some (0, q19.2) else none) else none) else none else none else none) else (if (0 : Int) = 0 ∨ (0 : Int) = 1 then some (0, q11.2) else none)) else none) else (if (0 : Int) = 0 ∨ (0 : Int) = 1 then some (0, q9.2) else none) else none) else (if (0 : Int) = 0 ∨ (0 : Int) = 1 then some (0, q8.2) else none)) else none) else none) := rfl
theorem zm_150 {d : Nat} {x0 x1 : Int} {σ : zM} : zG (d + 1) 150 [.inr (.inr x0), .inl x1] σ = ((fun (G : Nat → List zV → zM → zR) (K : Nat → zL → List zV → zM → zR) => (G 146 [.inr (.inr x0)] σ).bind fun q1 => if ((q1.2.1 x0).1 : Int) = 10 then (G 102 [.inr (.inr x0), .inl 1] q1.2).bind fun q2 => (G 138 [.inl x1, .inl 5] q2.2).bind fun q3 => (G 138 [.inl (zi_shr x1 3), .inl 1000] q3.2).bind fun q4 => (G 149 [.inr (.inr x0), .inl (zi_w ((zi_w (q3.1 * 1)) + (zi_w (12 * q4.1))))] q4.2).bind fun q5 => if (q5.1 : Int) = 0 then (if (1 : Int) = 0 ∨ (1 : Int) = 1 then some (1, q5.2) else none) else ((G 146 [.inr (.inr x0)] q5.2).bind fun q6 => if ((q6.2.1 x0).1 : Int) = 10 then (G 117 [.inr (.inr x0)] q6.2).bind fun q7 => if (q7.1 : Int) < 0 then (if (0 : Int) = 0 ∨ (0 : Int) = 1 then some (0, q7.2) else none) else ((G 146 [.inr (.inr x0)] q7.2).bind fun q8 => if (q8.1 : Int) = q1.1 then (if ((q8.2.1 x0).1 : Int) = 10 then (G 102 [.inr (.inr x0), .inl 1] q8.2).bind fun q9 => if (q9.1 : Int) = q2.1 then (if ((q9.2.1 x0).1 : Int) = 10 then (G 118 [.inr (.inr x0)] q9.2).bind fun q10 => if (q10.1 : Int) < 0 then (if (0 : Int) = 0 ∨ (0 : Int) = 1 then some (0, q10.2) else none) else ((G 146 [.inr (.inr x0)] q10.2).bind fun q11 => if (q11.1 : Int) = q6.1 then (if ((q11.2.1 x0).1 : Int) = 10 then (G 110 [.inr (.inr x0), .inl 0] q11.2).bind fun q12 => if ((q12.2.1 x0).1 : Int) = 10 then (G 110 [.inr (.inr x0), .inl 1] q12.2).bind fun q13 => if ((q13.2.1 x0).1 : Int) = 10 then (G 111 [.inr (.inr x0), .inl 1] q13.2).bind fun q14 => if (q14.1 : Int) < 0 then (if ((q14.2.1 x0).1 : Int) = 10 then (G 110 [.inr (.inr x0), .inl 3] q14.2).bind fun q15 => if ((q15.2.1 x0).1 : Int) = 10 then (G 110 [.inr (.inr x0), .inl 2] q15.2).bind fun q16 => if ((q16.2.1 x0).1 : Int) = 10 then (G 112 [.inr (.inr x0), .inl 1] q16.2).bind fun q17 => if ((q17.2.1 x0).1 : Int) = 10 then (G 102 [.inr (.inr x0), .inl 2] q17.2).bind fun q18 => if ((zi_w (q15.1 + 1)) : Int) < q18.1 then (K 172 [some (.inr (.inr x0)), none, none, none, none, some (.inl q12.1), some (.inl q13.1), some (.inl q15.1), some (.inl q16.1)] [.inl (zi_w (q15.1 + 1)), .inl q17.1] q18.2) else (K 172 [some (.inr (.inr x0)), none, none, none, none, some (.inl q12.1), some (.inl q13.1), some (.inl q15.1), some (.inl q16.1)] [.inl q15.1, .inl q17.1] q18.2) else none else none else none else none) else (if ((q14.2.1 x0).1 : Int) = 10 then (G 111 [.inr (.inr x0), .inl 0] q14.2).bind fun q19 => if (q19.1 : Int) = q13.1 then (if ((q19.2.1 x0).1 : Int) = 10 then (G 110 [.inr (.inr x0), .inl 0] q19.2).bind fun q20 => if (q20.1 : Int) = q12.1 then (if ((q20.2.1 x0).1 : Int) = 10 then (G 110 [.inr (.inr x0), .inl 3] q20.2).bind fun q21 => if ((q21.2.1 x0).1 : Int) = 10 then (G 110 [.inr (.inr x0), .inl 2] q21.2).bind fun q22 => if ((q22.2.1 x0).1 : Int) = 10 then (G 112 [.inr (.inr x0), .inl 1] q22.2).bind fun q23 => if ((q23.2.1 x0).1 : Int) = 10 then (G 102 [.inr (.inr x0), .inl 2] q23.2).bind fun q24 => if ((zi_w (q21.1 + 1)) : Int) < q24.1 then (K 172 [some (.inr (.inr x0)), none, none, none, none, some (.inl q12.1), some (.inl q13.1), some (.inl q21.1), some (.inl q22.1)] [.inl (zi_w (q21.1 + 1)), .inl q23.1] q24.2) else (K 172 [some (.inr (.inr x0)), none, none, none, none, some (.inl q12.1), some (.inl q13.1), some (.inl q21.1), some (.inl q22.1)] [.inl q21.1, .inl q23.1] q24.2) else none else none else none else none) else (if (0 : Int) = 0 ∨ (0 : Int) = 1 then some (0, q20.2) else none) else none) else (if (0 : Int) = 0 ∨ (0 : Int) = 1 then some (0, q19.2) else none) else none) else none else none else none) else (if (0 : Int) = 0 ∨ (0 : Int) = 1 then some (0, q11.2) else none)) else none) else (if (0 : Int) = 0 ∨ (0 : Int) = 1 then some (0, q9.2) else none) else none) else (if (0 : Int) = 0 ∨ (0 : Int) = 1 then some (0, q8.2) else none)) else none) else none) (zG d) (zi_run zt_150 (zG d) 19999)) := (zG_eq zt_150 rfl rfl rfl).trans ze_150_0
set_option maxRecDepth 20000 in
theorem ze_150_172 {G : Nat → List zV → zM → zR} {K : Nat → zL → List zV → zM → zR} {x0 x5 x6 x7 x8 y0 y1 : Int} {σ : zM} : zi_fr zt_150 G K 600 172 [some (.inr (.inr x0)), none, none, none, none, some (.inl x5), some (.inl x6), some (.inl x7), some (.inl x8)] [.inl y0, .inl y1] σ = (if (y1 : Int) = y0 then (if ((σ.1 x0).1 : Int) = 10 then (G 110 [.inr (.inr x0), .inl 2] σ).bind fun q1 => if (q1.1 : Int) = x8 then (if ((q1.2.1 x0).1 : Int) = 10 then (G 112 [.inr (.inr x0), .inl (-1)] q1.2).bind fun q2 => if (q2.1 : Int) < (zi_w (x7 - 1)) then (if (0 : Int) = 0 ∨ (0 : Int) = 1 then some (0, q2.2) else none) else (if ((q2.2.1 x0).1 : Int) = 10 then (G 102 [.inr (.inr x0), .inl 2] q2.2).bind fun q3 => if ((zi_w (x7 + 1)) : Int) < q3.1 then (if ((q3.2.1 x0).1 : Int) = 10 then (G 110 [.inr (.inr x0), .inl 1] q3.2).bind fun q4 => if (q4.1 : Int) = x6 then (if ((q4.2.1 x0).1 : Int) = 10 then (G 110 [.inr (.inr x0), .inl 0] q4.2).bind fun q5 => if (q5.1 : Int) = x5 then (if (1 : Int) = 0 ∨ (1 : Int) = 1 then some (1, q5.2) else none) else (if (0 : Int) = 0 ∨ (0 : Int) = 1 then some (0, q5.2) else none) else none) else (if (0 : Int) = 0 ∨ (0 : Int) = 1 then some (0, q4.2) else none) else none) else (if (1 : Int) = 0 ∨ (1 : Int) = 1 then some (1, q3.2) else none) else none) else none) else (if (0 : Int) = 0 ∨ (0 : Int) = 1 then some (0, q1.2) else none) else none) else (if (0 : Int) = 0 ∨ (0 : Int) = 1 then some (0, σ) else none)) := rfl
theorem zk_150_172 {G : Nat → List zV → zM → zR} {n : Nat} {x0 x5 x6 x7 x8 y0 y1 : Int} {σ : zM} : zi_run zt_150 G (n + 1) 172 [some (.inr (.inr x0)), none, none, none, none, some (.inl x5), some (.inl x6), some (.inl x7), some (.inl x8)] [.inl y0, .inl y1] σ = ((fun (K : Nat → zL → List zV → zM → zR) => if (y1 : Int) = y0 then (if ((σ.1 x0).1 : Int) = 10 then (G 110 [.inr (.inr x0), .inl 2] σ).bind fun q1 => if (q1.1 : Int) = x8 then (if ((q1.2.1 x0).1 : Int) = 10 then (G 112 [.inr (.inr x0), .inl (-1)] q1.2).bind fun q2 => if (q2.1 : Int) < (zi_w (x7 - 1)) then (if (0 : Int) = 0 ∨ (0 : Int) = 1 then some (0, q2.2) else none) else (if ((q2.2.1 x0).1 : Int) = 10 then (G 102 [.inr (.inr x0), .inl 2] q2.2).bind fun q3 => if ((zi_w (x7 + 1)) : Int) < q3.1 then (if ((q3.2.1 x0).1 : Int) = 10 then (G 110 [.inr (.inr x0), .inl 1] q3.2).bind fun q4 => if (q4.1 : Int) = x6 then (if ((q4.2.1 x0).1 : Int) = 10 then (G 110 [.inr (.inr x0), .inl 0] q4.2).bind fun q5 => if (q5.1 : Int) = x5 then (if (1 : Int) = 0 ∨ (1 : Int) = 1 then some (1, q5.2) else none) else (if (0 : Int) = 0 ∨ (0 : Int) = 1 then some (0, q5.2) else none) else none) else (if (0 : Int) = 0 ∨ (0 : Int) = 1 then some (0, q4.2) else none) else none) else (if (1 : Int) = 0 ∨ (1 : Int) = 1 then some (1, q3.2) else none) else none) else none) else (if (0 : Int) = 0 ∨ (0 : Int) = 1 then some (0, q1.2) else none) else none) else (if (0 : Int) = 0 ∨ (0 : Int) = 1 then some (0, σ) else none)) (zi_run zt_150 G n)) := zi_run_succ.trans ze_150_172
-- FoldedRowsLaw.sets(LFoldedRows;I)Z
set_option maxRecDepth 20000 in
theorem ze_151_0 {G : Nat → List zV → zM → zR} {K : Nat → zL → List zV → zM → zR} {x0 x1 : Int} {σ : zM} : zi_fr zt_151 G K 600 0 [some (.inr (.inr x0)), some (.inl x1), none, none, none] [] σ = (if ((σ.1 x0).1 : Int) = 10 then (G 122 [.inr (.inr x0), .inl 0] σ).bind fun q1 => if (q1.1 : Int) < 0 then (if (0 : Int) = 0 ∨ (0 : Int) = 1 then some (0, q1.2) else none) else ((G 146 [.inr (.inr x0)] q1.2).bind fun q2 => (G 138 [.inl x1, .inl 37] q2.2).bind fun q3 => if ((q3.2.1 x0).1 : Int) = 10 then (G 121 [.inr (.inr x0), .inl 0, .inl (zi_w (4 + q3.1))] q3.2).bind fun q4 => if ((q4.2.1 x0).1 : Int) = 10 then (G 121 [.inr (.inr x0), .inl 2, .inl 0] q4.2).bind fun q5 => if ((q5.2.1 x0).1 : Int) = 10 then (G 102 [.inr (.inr x0), .inl 2] q5.2).bind fun q6 => if ((q6.2.1 x0).1 : Int) = 10 then (G 102 [.inr (.inr x0), .inl 0] q6.2).bind fun q7 => if ((q7.2.1 x0).1 : Int) = 10 then (G 102 [.inr (.inr x0), .inl 3] q7.2).bind fun q8 => if (q6.1 : Int) = (zi_w (q7.1 - q8.1)) then (if ((q8.2.1 x0).1 : Int) = 10 then (G 110 [.inr (.inr x0), .inl 2] q8.2).bind fun q9 => if ((q9.2.1 x0).1 : Int) = 10 then (G 110 [.inr (.inr x0), .inl 4] q9.2).bind fun q10 => if (q9.1 : Int) = q10.1 then ((G 147 [.inr (.inr x0)] q10.2).bind fun q11 => if (q11.1 : Int) = 0 then (if (0 : Int) = 0 ∨ (0 : Int) = 1 then some (0, q11.2) else none) else (if ((q11.2.1 x0).1 : Int) = 10 then (G 121 [.inr (.inr x0), .inl 0, .inl q4.1] q11.2).bind fun q12 => if (q12.1 : Int) < 0 then (if (0 : Int) = 0 ∨ (0 : Int) = 1 then some (0, q12.2) else none) else (if ((q12.2.1 x0).1 : Int) = 10 then (G 121 [.inr (.inr x0), .inl 2, .inl q5.1] q12.2).bind fun q13 => if (q13.1 : Int) = 0 then ((G 147 [.inr (.inr x0)] q13.2).bind fun q14 => if (q14.1 : Int) = 0 then (if (0 : Int) = 0 ∨ (0 : Int) = 1 then some (0, q14.2) else none) else (if ((q14.2.1 x0).1 : Int) = 10 then (G 123 [.inr (.inr x0), .inl 0] q14.2).bind fun q15 => if ((q15.2.1 x0).1 : Int) = 10 then (G 102 [.inr (.inr x0), .inl 0] q15.2).bind fun q16 => if (q15.1 : Int) = q16.1 then ((G 146 [.inr (.inr x0)] q16.2).bind fun q17 => if (q17.1 : Int) = q2.1 then (if ((q17.2.1 x0).1 : Int) = 10 then (G 102 [.inr (.inr x0), .inl 10] q17.2).bind fun q18 => if (q18.1 : Int) = 0 then (if (1 : Int) = 0 ∨ (1 : Int) = 1 then some (1, q18.2) else none) else (if (0 : Int) = 0 ∨ (0 : Int) = 1 then some (0, q18.2) else none) else none) else (if (0 : Int) = 0 ∨ (0 : Int) = 1 then some (0, q17.2) else none)) else (if (0 : Int) = 0 ∨ (0 : Int) = 1 then some (0, q16.2) else none) else none else none)) else (if (0 : Int) = 0 ∨ (0 : Int) = 1 then some (0, q13.2) else none) else none) else none)) else (if (0 : Int) = 0 ∨ (0 : Int) = 1 then some (0, q10.2) else none) else none else none) else (if (0 : Int) = 0 ∨ (0 : Int) = 1 then some (0, q8.2) else none) else none else none else none else none else none) else none) := rfl
theorem zm_151 {d : Nat} {x0 x1 : Int} {σ : zM} : zG (d + 1) 151 [.inr (.inr x0), .inl x1] σ = ((fun (G : Nat → List zV → zM → zR) (K : Nat → zL → List zV → zM → zR) => if ((σ.1 x0).1 : Int) = 10 then (G 122 [.inr (.inr x0), .inl 0] σ).bind fun q1 => if (q1.1 : Int) < 0 then (if (0 : Int) = 0 ∨ (0 : Int) = 1 then some (0, q1.2) else none) else ((G 146 [.inr (.inr x0)] q1.2).bind fun q2 => (G 138 [.inl x1, .inl 37] q2.2).bind fun q3 => if ((q3.2.1 x0).1 : Int) = 10 then (G 121 [.inr (.inr x0), .inl 0, .inl (zi_w (4 + q3.1))] q3.2).bind fun q4 => if ((q4.2.1 x0).1 : Int) = 10 then (G 121 [.inr (.inr x0), .inl 2, .inl 0] q4.2).bind fun q5 => if ((q5.2.1 x0).1 : Int) = 10 then (G 102 [.inr (.inr x0), .inl 2] q5.2).bind fun q6 => if ((q6.2.1 x0).1 : Int) = 10 then (G 102 [.inr (.inr x0), .inl 0] q6.2).bind fun q7 => if ((q7.2.1 x0).1 : Int) = 10 then (G 102 [.inr (.inr x0), .inl 3] q7.2).bind fun q8 => if (q6.1 : Int) = (zi_w (q7.1 - q8.1)) then (if ((q8.2.1 x0).1 : Int) = 10 then (G 110 [.inr (.inr x0), .inl 2] q8.2).bind fun q9 => if ((q9.2.1 x0).1 : Int) = 10 then (G 110 [.inr (.inr x0), .inl 4] q9.2).bind fun q10 => if (q9.1 : Int) = q10.1 then ((G 147 [.inr (.inr x0)] q10.2).bind fun q11 => if (q11.1 : Int) = 0 then (if (0 : Int) = 0 ∨ (0 : Int) = 1 then some (0, q11.2) else none) else (if ((q11.2.1 x0).1 : Int) = 10 then (G 121 [.inr (.inr x0), .inl 0, .inl q4.1] q11.2).bind fun q12 => if (q12.1 : Int) < 0 then (if (0 : Int) = 0 ∨ (0 : Int) = 1 then some (0, q12.2) else none) else (if ((q12.2.1 x0).1 : Int) = 10 then (G 121 [.inr (.inr x0), .inl 2, .inl q5.1] q12.2).bind fun q13 => if (q13.1 : Int) = 0 then ((G 147 [.inr (.inr x0)] q13.2).bind fun q14 => if (q14.1 : Int) = 0 then (if (0 : Int) = 0 ∨ (0 : Int) = 1 then some (0, q14.2) else none) else (if ((q14.2.1 x0).1 : Int) = 10 then (G 123 [.inr (.inr x0), .inl 0] q14.2).bind fun q15 => if ((q15.2.1 x0).1 : Int) = 10 then (G 102 [.inr (.inr x0), .inl 0] q15.2).bind fun q16 => if (q15.1 : Int) = q16.1 then ((G 146 [.inr (.inr x0)] q16.2).bind fun q17 => if (q17.1 : Int) = q2.1 then (if ((q17.2.1 x0).1 : Int) = 10 then (G 102 [.inr (.inr x0), .inl 10] q17.2).bind fun q18 => if (q18.1 : Int) = 0 then (if (1 : Int) = 0 ∨ (1 : Int) = 1 then some (1, q18.2) else none) else (if (0 : Int) = 0 ∨ (0 : Int) = 1 then some (0, q18.2) else none) else none) else (if (0 : Int) = 0 ∨ (0 : Int) = 1 then some (0, q17.2) else none)) else (if (0 : Int) = 0 ∨ (0 : Int) = 1 then some (0, q16.2) else none) else none else none)) else (if (0 : Int) = 0 ∨ (0 : Int) = 1 then some (0, q13.2) else none) else none) else none)) else (if (0 : Int) = 0 ∨ (0 : Int) = 1 then some (0, q10.2) else none) else none else none) else (if (0 : Int) = 0 ∨ (0 : Int) = 1 then some (0, q8.2) else none) else none else none else none else none else none) else none) (zG d) (zi_run zt_151 (zG d) 19999)) := (zG_eq zt_151 rfl rfl rfl).trans ze_151_0
-- FoldedRowsLaw.law([I)Z
set_option maxRecDepth 20000 in
theorem ze_152_0 {G : Nat → List zV → zM → zR} {K : Nat → zL → List zV → zM → zR} {x0 : Int} {σ : zM} : zi_fr zt_152 G K 600 0 [some (.inr (.inr x0)), none, none, none, none, none] [] σ = (let s1 : zM := zi_new σ 10 0 10; if ((s1.1 σ.2.2.2.1).1 : Int) = 10 then (G 98 [.inr (.inr σ.2.2.2.1)] s1).bind fun q2 => if (0 : Int) ≤ 60 ∧ (60 : Int) ≤ 100000 then let s3 : zM := zi_new q2.2 19 60 (Int.toNat 60); if (0 : Int) ≤ 40 ∧ (40 : Int) ≤ 100000 then let s4 : zM := zi_new s3 12 40 (Int.toNat 40); (G 147 [.inr (.inr σ.2.2.2.1)] s4).bind fun q5 => if (q5.1 : Int) = 0 then (if (0 : Int) = 0 ∨ (0 : Int) = 1 then some (0, q5.2) else none) else ((G 145 [.inr (.inr σ.2.2.2.1), .inr (.inr q2.2.2.2.2.1), .inr (.inr s3.2.2.2.1), .inr (.inr x0), .inl 5] q5.2).bind fun q6 => if (q6.1 : Int) = 0 then (if (0 : Int) = 0 ∨ (0 : Int) = 1 then some (0, q6.2) else none) else ((G 147 [.inr (.inr σ.2.2.2.1)] q6.2).bind fun q7 => if (q7.1 : Int) = 0 then (if (0 : Int) = 0 ∨ (0 : Int) = 1 then some (0, q7.2) else none) else ((G 148 [.inr (.inr σ.2.2.2.1)] q7.2).bind fun q8 => if (q8.1 : Int) = 0 then (if (0 : Int) = 0 ∨ (0 : Int) = 1 then some (0, q8.2) else none) else (K 55 [some (.inr (.inr x0)), some (.inr (.inr σ.2.2.2.1)), none, none, some (.inl 0), none] [] q8.2)))) else none else none else none) := rfl
theorem zk_152_0 {G : Nat → List zV → zM → zR} {n : Nat} {x0 : Int} {σ : zM} : zi_run zt_152 G (n + 1) 0 [some (.inr (.inr x0)), none, none, none, none, none] [] σ = ((fun (K : Nat → zL → List zV → zM → zR) => let s1 : zM := zi_new σ 10 0 10; if ((s1.1 σ.2.2.2.1).1 : Int) = 10 then (G 98 [.inr (.inr σ.2.2.2.1)] s1).bind fun q2 => if (0 : Int) ≤ 60 ∧ (60 : Int) ≤ 100000 then let s3 : zM := zi_new q2.2 19 60 (Int.toNat 60); if (0 : Int) ≤ 40 ∧ (40 : Int) ≤ 100000 then let s4 : zM := zi_new s3 12 40 (Int.toNat 40); (G 147 [.inr (.inr σ.2.2.2.1)] s4).bind fun q5 => if (q5.1 : Int) = 0 then (if (0 : Int) = 0 ∨ (0 : Int) = 1 then some (0, q5.2) else none) else ((G 145 [.inr (.inr σ.2.2.2.1), .inr (.inr q2.2.2.2.2.1), .inr (.inr s3.2.2.2.1), .inr (.inr x0), .inl 5] q5.2).bind fun q6 => if (q6.1 : Int) = 0 then (if (0 : Int) = 0 ∨ (0 : Int) = 1 then some (0, q6.2) else none) else ((G 147 [.inr (.inr σ.2.2.2.1)] q6.2).bind fun q7 => if (q7.1 : Int) = 0 then (if (0 : Int) = 0 ∨ (0 : Int) = 1 then some (0, q7.2) else none) else ((G 148 [.inr (.inr σ.2.2.2.1)] q7.2).bind fun q8 => if (q8.1 : Int) = 0 then (if (0 : Int) = 0 ∨ (0 : Int) = 1 then some (0, q8.2) else none) else (K 55 [some (.inr (.inr x0)), some (.inr (.inr σ.2.2.2.1)), none, none, some (.inl 0), none] [] q8.2)))) else none else none else none) (zi_run zt_152 G n)) := zi_run_succ.trans ze_152_0
set_option maxRecDepth 20000 in
theorem ze_152_55 {G : Nat → List zV → zM → zR} {K : Nat → zL → List zV → zM → zR} {x0 x1 x4 : Int} {σ : zM} : zi_fr zt_152 G K 600 55 [some (.inr (.inr x0)), some (.inr (.inr x1)), none, none, some (.inl x4), none] [] σ = (if (x4 : Int) < 16 then ((G 139 [.inr (.inr x0), .inl (zi_w (120 + x4))] σ).bind fun q5 => (G 138 [.inl q5.1, .inl 3] q5.2).bind fun q6 => if (0 : Int) < q6.1 then ((G 149 [.inr (.inr x1), .inl (zi_shr q5.1 2)] q6.2).bind fun q10 => (G 147 [.inr (.inr x1)] q10.2).bind fun q11 => if (q11.1 : Int) = 0 then (if (0 : Int) = 0 ∨ (0 : Int) = 1 then some (0, q11.2) else none) else ((G 148 [.inr (.inr x1)] q11.2).bind fun q12 => if (q12.1 : Int) = 0 then (if (0 : Int) = 0 ∨ (0 : Int) = 1 then some (0, q12.2) else none) else (K 55 [some (.inr (.inr x0)), some (.inr (.inr x1)), none, none, some (.inl (zi_w (x4 + 1))), none] [] q12.2))) else ((G 150 [.inr (.inr x1), .inl (zi_shr q5.1 2)] q6.2).bind fun q7 => if (q7.1 : Int) = 0 then (if (0 : Int) = 0 ∨ (0 : Int) = 1 then some (0, q7.2) else none) else ((G 147 [.inr (.inr x1)] q7.2).bind fun q8 => if (q8.1 : Int) = 0 then (if (0 : Int) = 0 ∨ (0 : Int) = 1 then some (0, q8.2) else none) else ((G 148 [.inr (.inr x1)] q8.2).bind fun q9 => if (q9.1 : Int) = 0 then (if (0 : Int) = 0 ∨ (0 : Int) = 1 then some (0, q9.2) else none) else (K 55 [some (.inr (.inr x0)), some (.inr (.inr x1)), none, none, some (.inl (zi_w (x4 + 1))), none] [] q9.2))))) else ((G 139 [.inr (.inr x0), .inl 3] σ).bind fun q1 => (G 151 [.inr (.inr x1), .inl q1.1] q1.2).bind fun q2 => if (q2.1 : Int) = 0 then (if (0 : Int) = 0 ∨ (0 : Int) = 1 then some (0, q2.2) else none) else ((G 147 [.inr (.inr x1)] q2.2).bind fun q3 => if (q3.1 : Int) = 0 then (if (0 : Int) = 0 ∨ (0 : Int) = 1 then some (0, q3.2) else none) else ((G 148 [.inr (.inr x1)] q3.2).bind fun q4 => if (q4.1 : Int) = 0 then (if (0 : Int) = 0 ∨ (0 : Int) = 1 then some (0, q4.2) else none) else (if (1 : Int) = 0 ∨ (1 : Int) = 1 then some (1, q4.2) else none))))) := rfl
theorem zk_152_55 {G : Nat → List zV → zM → zR} {n : Nat} {x0 x1 x4 : Int} {σ : zM} : zi_run zt_152 G (n + 1) 55 [some (.inr (.inr x0)), some (.inr (.inr x1)), none, none, some (.inl x4), none] [] σ = ((fun (K : Nat → zL → List zV → zM → zR) => if (x4 : Int) < 16 then ((G 139 [.inr (.inr x0), .inl (zi_w (120 + x4))] σ).bind fun q5 => (G 138 [.inl q5.1, .inl 3] q5.2).bind fun q6 => if (0 : Int) < q6.1 then ((G 149 [.inr (.inr x1), .inl (zi_shr q5.1 2)] q6.2).bind fun q10 => (G 147 [.inr (.inr x1)] q10.2).bind fun q11 => if (q11.1 : Int) = 0 then (if (0 : Int) = 0 ∨ (0 : Int) = 1 then some (0, q11.2) else none) else ((G 148 [.inr (.inr x1)] q11.2).bind fun q12 => if (q12.1 : Int) = 0 then (if (0 : Int) = 0 ∨ (0 : Int) = 1 then some (0, q12.2) else none) else (K 55 [some (.inr (.inr x0)), some (.inr (.inr x1)), none, none, some (.inl (zi_w (x4 + 1))), none] [] q12.2))) else ((G 150 [.inr (.inr x1), .inl (zi_shr q5.1 2)] q6.2).bind fun q7 => if (q7.1 : Int) = 0 then (if (0 : Int) = 0 ∨ (0 : Int) = 1 then some (0, q7.2) else none) else ((G 147 [.inr (.inr x1)] q7.2).bind fun q8 => if (q8.1 : Int) = 0 then (if (0 : Int) = 0 ∨ (0 : Int) = 1 then some (0, q8.2) else none) else ((G 148 [.inr (.inr x1)] q8.2).bind fun q9 => if (q9.1 : Int) = 0 then (if (0 : Int) = 0 ∨ (0 : Int) = 1 then some (0, q9.2) else none) else (K 55 [some (.inr (.inr x0)), some (.inr (.inr x1)), none, none, some (.inl (zi_w (x4 + 1))), none] [] q9.2))))) else ((G 139 [.inr (.inr x0), .inl 3] σ).bind fun q1 => (G 151 [.inr (.inr x1), .inl q1.1] q1.2).bind fun q2 => if (q2.1 : Int) = 0 then (if (0 : Int) = 0 ∨ (0 : Int) = 1 then some (0, q2.2) else none) else ((G 147 [.inr (.inr x1)] q2.2).bind fun q3 => if (q3.1 : Int) = 0 then (if (0 : Int) = 0 ∨ (0 : Int) = 1 then some (0, q3.2) else none) else ((G 148 [.inr (.inr x1)] q3.2).bind fun q4 => if (q4.1 : Int) = 0 then (if (0 : Int) = 0 ∨ (0 : Int) = 1 then some (0, q4.2) else none) else (if (1 : Int) = 0 ∨ (1 : Int) = 1 then some (1, q4.2) else none))))) (zi_run zt_152 G n)) := zi_run_succ.trans ze_152_55
end
