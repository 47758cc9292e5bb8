/-! locals -/
def zi_lr (ls : zL) (nL : Nat) (L : Array Slot) : Prop := ls.length = nL ∧ L.size = nL ∧ lv_wf L ∧ ∀ i v, zi_get ls i = some v → L[i]? = some (.val (zi_v v)) ∧ zi_in v
def zi_ll (ls : zL) : List (Nat × Value) := (List.range ls.length).filterMap fun i => (zi_get ls i).map fun v => (i, zi_v v)
theorem zi_get_lt : ∀ {ls : zL} {i : Nat} {v : zV}, zi_get ls i = some v → i < ls.length
  | [], _, _, h => by cases h
  | _ :: _, 0, _, _ => by simp
  | _ :: l, i + 1, _, h => by
    have := zi_get_lt (ls := l) (i := i) h
    simp; omega
theorem zi_ll_mem {ls : zL} {q : Nat × Value} : q ∈ zi_ll ls ↔ ∃ v, zi_get ls q.1 = some v ∧ q.2 = zi_v v := by
  unfold zi_ll
  rw [List.mem_filterMap]
  constructor
  · rintro ⟨i, -, h⟩
    cases hv : zi_get ls i with
    | none => rw [hv] at h; cases h
    | some v =>
      rw [hv] at h
      cases h
      exact ⟨v, hv, rfl⟩
  · rintro ⟨v, h1, h2⟩
    refine ⟨q.1, List.mem_range.mpr (zi_get_lt h1), ?_⟩
    rw [h1]
    show some (q.1, zi_v v) = some q
    rw [← h2]
theorem zi_lr_has {ls : zL} {nL : Nat} {L : Array Slot} (h : zi_lr ls nL L) : lv_has L nL (zi_ll ls) := by
  refine ⟨h.2.1, h.2.2.1, fun q hq => ?_⟩
  obtain ⟨v, h1, h2⟩ := zi_ll_mem.mp hq
  rw [h2]
  exact (h.2.2.2 q.1 v h1).1
theorem zi_set_spec : ∀ {ls ls' : zL} {i : Nat} {v : zV}, zi_set ls i v = some ls' → ls'.length = ls.length ∧ i < ls.length ∧ zi_get ls' i = some v ∧ ∀ j u, j ≠ i → zi_get ls' j = some u → zi_get ls j = some u ∧ ¬(j + 1 = i ∧ ∃ x, u = .inr (.inl x))
  | [], _, _, _, h => by cases h
  | w :: l, ls', 0, v, h => by
    cases h
    refine ⟨rfl, by simp, rfl, fun j u hj hu => ?_⟩
    cases j with
    | zero => exact absurd rfl hj
    | succ j => exact ⟨hu, fun q => by omega⟩
  | none :: l, ls', i + 1, v, h => by
    cases h1 : zi_set l i v with
    | none => simp [zi_set, h1] at h
    | some l' =>
      simp [zi_set, h1] at h
      subst h
      obtain ⟨a1, a2, a3, a4⟩ := zi_set_spec h1
      refine ⟨by simp [a1], by simp; omega, a3, fun j u hj hu => ?_⟩
      cases j with
      | zero => cases hu
      | succ j =>
        obtain ⟨b1, b2⟩ := a4 j u (by omega) hu
        exact ⟨b1, fun q => b2 ⟨by omega, q.2⟩⟩
  | some (.inl x) :: l, ls', i + 1, v, h => by
    cases h1 : zi_set l i v with
    | none => simp [zi_set, h1] at h
    | some l' =>
      simp [zi_set, h1] at h
      subst h
      obtain ⟨a1, a2, a3, a4⟩ := zi_set_spec h1
      refine ⟨by simp [a1], by simp; omega, a3, fun j u hj hu => ?_⟩
      cases j with
      | zero => cases hu; exact ⟨rfl, fun q => by obtain ⟨-, x, q⟩ := q; cases q⟩
      | succ j =>
        obtain ⟨b1, b2⟩ := a4 j u (by omega) hu
        exact ⟨b1, fun q => b2 ⟨by omega, q.2⟩⟩
  | some (.inr (.inr x)) :: l, ls', i + 1, v, h => by
    cases h1 : zi_set l i v with
    | none => simp [zi_set, h1] at h
    | some l' =>
      simp [zi_set, h1] at h
      subst h
      obtain ⟨a1, a2, a3, a4⟩ := zi_set_spec h1
      refine ⟨by simp [a1], by simp; omega, a3, fun j u hj hu => ?_⟩
      cases j with
      | zero => cases hu; exact ⟨rfl, fun q => by obtain ⟨-, x, q⟩ := q; cases q⟩
      | succ j =>
        obtain ⟨b1, b2⟩ := a4 j u (by omega) hu
        exact ⟨b1, fun q => b2 ⟨by omega, q.2⟩⟩
  | some (.inr (.inl x)) :: l, ls', 0 + 1, v, h => by cases h
  | some (.inr (.inl x)) :: l, ls', (i + 1) + 1, v, h => by
    cases h1 : zi_set l (i + 1) v with
    | none => simp [zi_set, h1] at h
    | some l' =>
      simp [zi_set, h1] at h
      subst h
      obtain ⟨a1, a2, a3, a4⟩ := zi_set_spec h1
      refine ⟨by simp [a1], by simp; omega, a3, fun j u hj hu => ?_⟩
      cases j with
      | zero => cases hu; exact ⟨rfl, fun q => by omega⟩
      | succ j =>
        obtain ⟨b1, b2⟩ := a4 j u (by omega) hu
        exact ⟨b1, fun q => b2 ⟨by omega, q.2⟩⟩
theorem zi_v_cat {v : zV} (h : (zi_v v).category = 2) : ∃ x, v = .inr (.inl x) := by
  match v with
  | .inl x => cases h
  | .inr (.inl x) => exact ⟨x, rfl⟩
  | .inr (.inr x) =>
    exfalso
    change (va_rf (zi_ro x)).category = 2 at h
    cases hr : zi_ro x with
    | none => rw [hr] at h; cases h
    | some y => rw [hr] at h; cases h
theorem zi_v_cat1 {v : zV} (h : zi_c1 v = true) : (zi_v v).category = 1 := by
  match v with
  | .inl x => rfl
  | .inr (.inl x) => cases h
  | .inr (.inr x) =>
    show (va_rf (zi_ro x)).category = 1
    unfold va_rf
    split <;> rfl
theorem zi_lr_set1 {ls ls' : zL} {nL i : Nat} {v : zV} {L L' : Array Slot} (h : zi_lr ls nL L) (hs : zi_set ls i v = some ls') (hv : zi_in v) (hL : lv_has L' nL ((i, zi_v v) :: (zi_ll ls).filter (fun q => !(q.1 == i) && !(q.1 + 1 == i && q.2.category == 2)))) : zi_lr ls' nL L' := by
  obtain ⟨a1, a2, a3, a4⟩ := zi_set_spec hs
  refine ⟨a1.trans h.1, hL.1, hL.2.1, fun j u hu => ?_⟩
  by_cases hj : j = i
  · subst hj
    rw [a3] at hu
    cases hu
    exact ⟨hL.2.2 _ List.mem_cons_self, hv⟩
  · obtain ⟨b1, b2⟩ := a4 j u hj hu
    refine ⟨hL.2.2 (j, zi_v u) (List.mem_cons_of_mem _ (List.mem_filter.mpr ⟨zi_ll_mem.mpr ⟨u, b1, rfl⟩, ?_⟩)), (h.2.2.2 j u b1).2⟩
    have h1 : (j == i) = false := by simpa using hj
    show (!(j == i) && !(j + 1 == i && (zi_v u).category == 2)) = true
    rw [h1]
    by_cases h2 : j + 1 = i
    · have h3 : ¬ (zi_v u).category = 2 := fun q => b2 ⟨h2, zi_v_cat q⟩
      simp [h3]
    · simp [h2]
theorem zi_mask_get : ∀ {m : List Bool} {ls : zL} {i : Nat} {v : zV}, zi_get (zi_mask m ls) i = some v → zi_get ls i = some v ∧ m[i]? = some true
  | [], _, _, _, h => by simp [zi_mask] at h; cases h
  | _ :: _, [], _, _, h => by simp [zi_mask] at h; cases h
  | true :: m, w :: l, 0, v, h => ⟨h, rfl⟩
  | false :: m, w :: l, 0, v, h => by cases h
  | b :: m, w :: l, i + 1, v, h => zi_mask_get (m := m) (ls := l) h
theorem zi_mask_len : ∀ {m : List Bool} {ls : zL}, m.length = ls.length → (zi_mask m ls).length = ls.length
  | [], [], _ => rfl
  | [], _ :: _, h => by cases h
  | _ :: _, [], h => by cases h
  | b :: m, w :: l, h => by
    simp only [zi_mask, List.length_cons] at h ⊢
    rw [zi_mask_len (by omega)]
theorem zi_lr_mask {ls : zL} {nL : Nat} {L : Array Slot} {m : List Bool} (h : zi_lr ls nL L) (hm : m.length = ls.length) : zi_lr (zi_mask m ls) nL L :=
  ⟨(zi_mask_len hm).trans h.1, h.2.1, h.2.2.1, fun i v hv => h.2.2.2 i v (zi_mask_get hv).1⟩
theorem zi_lr_set2 {ls l1 l2 : zL} {nL i : Nat} {x : Int} {L L' : Array Slot} (h : zi_lr ls nL L) (h1 : zi_set ls (i + 1) (.inl 0) = some l1) (h2 : zi_set l1 i (.inr (.inl x)) = some l2) (hv : zi_in (.inr (.inl x))) (hL : lv_has L' nL ((i, Value.long (Int64.ofInt x)) :: (zi_ll ls).filter (fun q => !(q.1 == i) && (!(q.1 == i + 1) && !(q.1 + 1 == i && q.2.category == 2))))) : zi_lr (zi_mask ((List.range l2.length).map fun k => !(Nat.beq k (i + 1))) l2) nL L' := by
  obtain ⟨a1, a2, a3, a4⟩ := zi_set_spec h1
  obtain ⟨c1, c2, c3, c4⟩ := zi_set_spec h2
  refine ⟨(zi_mask_len (by simp)).trans (c1.trans (a1.trans h.1)), hL.1, hL.2.1, fun j u hu => ?_⟩
  obtain ⟨e1, e2⟩ := zi_mask_get hu
  have hj1 : j ≠ i + 1 := by
    intro q
    subst q
    simp at e2
    obtain ⟨z, z1, z2⟩ := e2
    obtain ⟨z0, z3⟩ := List.getElem?_eq_some_iff.mp z1
    simp at z3
    rw [← z3] at z2
    simp at z2
  by_cases hj : j = i
  · subst hj
    rw [c3] at e1
    cases e1
    exact ⟨hL.2.2 _ List.mem_cons_self, hv⟩
  · obtain ⟨b1, b2⟩ := c4 j u hj e1
    obtain ⟨d1, d2⟩ := a4 j u hj1 b1
    refine ⟨hL.2.2 (j, zi_v u) (List.mem_cons_of_mem _ (List.mem_filter.mpr ⟨zi_ll_mem.mpr ⟨u, d1, rfl⟩, ?_⟩)), (h.2.2.2 j u d1).2⟩
    have g1 : (j == i) = false := by simpa using hj
    have g2 : (j == i + 1) = false := by simpa using hj1
    show (!(j == i) && (!(j == i + 1) && !(j + 1 == i && (zi_v u).category == 2))) = true
    rw [g1, g2]
    by_cases h2 : j + 1 = i
    · have h3 : ¬ (zi_v u).category = 2 := fun q => b2 ⟨h2, zi_v_cat q⟩
      simp [h3]
    · simp [h2]
/-! the memory in the heap -/
def zi_ak (k : Nat) : Option FieldType := match k with
  | 12 => some .int
  | 13 => some .boolean
  | 14 => some (.object "FoldedRows$Frame")
  | 15 => some (.object "FoldedRows$Image")
  | 16 => some (.object "FoldedRows$LaidLine")
  | 17 => some (.object "FoldedRows$Sheet")
  | 19 => some .long
  | _ => none
def zi_et (k : Nat) : Nat := match k with
  | 12 => 1
  | 13 => 1
  | 18 => 1
  | 19 => 4
  | _ => 3
def zi_ao (s : State) (D : va_G) (base : Nat) (σ : zM) (H : Heap) (a : Nat) (x : Int) : Prop :=
  ∀ q, vwCl[(σ.1 x).1]? = some q → base ≤ a ∧ t_OB a (D.1 (σ.1 x).1) q.2.2 (D.2 (σ.1 x).1) H (fun i => zi_v (zi_mkv (zi_ft (σ.1 x).1 i) (zi_rd σ (zi_ft (σ.1 x).1 i) x i))) ∧ ∀ i, i < q.2.2 → zi_in (zi_mkv (zi_ft (σ.1 x).1 i) (zi_rd σ (zi_ft (σ.1 x).1 i) x i))
def zi_aa (s : State) (base : Nat) (σ : zM) (H : Heap) (a : Nat) (x : Int) : Prop :=
  ∀ ty, zi_ak (σ.1 x).1 = some ty → base ≤ a ∧ zi_ir (σ.1 x).2 ∧ 0 ≤ (σ.1 x).2 ∧ (∃ cA, ArrOfT s cA ty ∧ va_RA s cA ty ∧ H[a]? = some (arrV cA (σ.1 x).2.toNat (fun j => zi_v (zi_mkv (zi_et (σ.1 x).1) (zi_rd σ (zi_et (σ.1 x).1) x j))))) ∧ ∀ j : Nat, j < (σ.1 x).2.toNat → zi_in (zi_mkv (zi_et (σ.1 x).1) (zi_rd σ (zi_et (σ.1 x).1) x j))
def zi_as (s : State) (σ : zM) (H : Heap) (a : Nat) (x : Int) : Prop :=
  (σ.1 x).1 = 18 → zi_ir (σ.1 x).2 ∧ 0 ≤ (σ.1 x).2 ∧ (∃ cell : Cell, H[a]? = some cell ∧ s.isArrayOf cell .int ∧ cell.vm ≠ .unknown ∧ cell.slots.size = (σ.1 x).2.toNat ∧ ∀ j : Nat, j < (σ.1 x).2.toNat → cell.slots[j]? = some (.int (Int32.ofInt (σ.2.1 x j)))) ∧ ∀ j : Nat, j < (σ.1 x).2.toNat → zi_ir (σ.2.1 x j)
def zi_W (s : State) (D : va_G) (base : Nat) (σ : zM) (H : Heap) : Prop :=
  (H.size : Int) + 1 = σ.2.2.2.1 ∧ base ≤ H.size ∧ (∀ x : Int, (σ.1 x).1 ≠ 99 → 1 ≤ x ∧ x < σ.2.2.2.1) ∧ ∀ a : Nat, zi_ao s D base σ H a ((a : Int) + 1) ∧ zi_aa s base σ H a ((a : Int) + 1) ∧ zi_as s σ H a ((a : Int) + 1)
theorem zi_W.moved {u U : State} {D : va_G} {base : Nat} {σ : zM} {H : Heap} (hvm : u.vm.Alike U.vm) (h : zi_W u D base σ H) : zi_W U D base σ H := by
  refine ⟨h.1, h.2.1, h.2.2.1, fun a => ?_⟩
  obtain ⟨h1, h2, h3⟩ := h.2.2.2 a
  refine ⟨h1, fun ty hty => ?_, fun hk => ?_⟩
  · obtain ⟨b1, b2, b3, ⟨cA, c1, c2, c3⟩, b4⟩ := h2 ty hty
    exact ⟨b1, b2, b3, ⟨cA, arrOfT_moved hvm c1, c2.moved hvm, c3⟩, b4⟩
  · obtain ⟨b1, b2, ⟨cell, c1, c2, c3⟩, b4⟩ := h3 hk
    exact ⟨b1, b2, ⟨cell, c1, State.isArrayOf_alike hvm c2, c3⟩, b4⟩
theorem zi_kind_pos {s : State} {D : va_G} {base : Nat} {σ : zM} {H : Heap} (h : zi_W s D base σ H) {x : Int} {k : Nat} (hk : (σ.1 x).1 = k) (h9 : k ≠ 99) : ∃ a : Nat, x = (a : Int) + 1 ∧ zi_ro x = some a := by
  have := (h.2.2.1 x (by rw [hk]; exact h9)).1
  refine ⟨x.toNat - 1, by omega, ?_⟩
  unfold zi_ro
  rw [if_neg (by omega)]
theorem zi_vr {x : Int} {a : Nat} (h : zi_ro x = some a) : zi_v (.inr (.inr x)) = .ref a := by
  show va_rf (zi_ro x) = _
  rw [h]; rfl
theorem zi_up_ne {M : Int → Int → Int} {a k v a' k' : Int} (h : a' ≠ a) : zi_up M a k v a' k' = M a' k' := by
  unfold zi_up
  rw [if_neg (fun q => h q.1)]
theorem zi_up_nk {M : Int → Int → Int} {a k v a' k' : Int} (h : k' ≠ k) : zi_up M a k v a' k' = M a' k' := by
  unfold zi_up
  rw [if_neg (fun q => h q.2)]
theorem zi_up_eq {M : Int → Int → Int} {a k v : Int} : zi_up M a k v a k = v := by
  unfold zi_up
  rw [if_pos ⟨rfl, rfl⟩]
/-- cells elsewhere stay -/
theorem zi_else {s : State} {D : va_G} {base : Nat} {σ σ' : zM} {H H1 : Heap} {a : Nat} {x : Int} (hs : σ'.1 x = σ.1 x) (hm : ∀ j, σ'.2.1 x j = σ.2.1 x j) (hr : ∀ j, σ'.2.2.1 x j = σ.2.2.1 x j) (hH : H1[a]? = H[a]?) (h : zi_ao s D base σ H a x ∧ zi_aa s base σ H a x ∧ zi_as s σ H a x) : zi_ao s D base σ' H1 a x ∧ zi_aa s base σ' H1 a x ∧ zi_as s σ' H1 a x := by
  obtain ⟨h1, h2, h3⟩ := h
  have hd : ∀ t j, zi_rd σ' t x j = zi_rd σ t x j := by
    intro t j
    unfold zi_rd
    split
    · exact hr j
    · exact hm j
  unfold zi_ao zi_aa zi_as
  simp only [hs, hm, hd, hH]
  refine ⟨fun q hq => ?_, h2, h3⟩
  obtain ⟨a1, a2, a3⟩ := h1 q hq
  exact ⟨a1, a2.kept hH, a3⟩
/-- σ' is σ but at x -/
def zi_only (σ σ' : zM) (x : Int) : Prop := σ'.1 = σ.1 ∧ σ'.2.2.2 = σ.2.2.2 ∧ ∀ y j, y ≠ x → σ'.2.1 y j = σ.2.1 y j ∧ σ'.2.2.1 y j = σ.2.2.1 y j
theorem zi_only_wr {σ : zM} {x k v : Int} : zi_only σ (zi_wr σ x k v) x := ⟨rfl, rfl, fun y j hy => ⟨zi_up_ne hy, rfl⟩⟩
theorem zi_only_wq {σ : zM} {x k v : Int} : zi_only σ (zi_wq σ x k v) x := ⟨rfl, rfl, fun y j hy => ⟨rfl, zi_up_ne hy⟩⟩
/-- what is written by its kind -/
def zi_wt (σ : zM) (t : Nat) (x k v : Int) : zM := match t with
  | 3 => zi_wq σ x k v
  | _ => zi_wr σ x k v
theorem zi_only_wt {σ : zM} {t : Nat} {x k v : Int} : zi_only σ (zi_wt σ t x k v) x := by
  unfold zi_wt
  split
  · exact zi_only_wq
  · exact zi_only_wr
theorem zi_rd_wt {σ : zM} {t : Nat} {x k v : Int} : zi_rd (zi_wt σ t x k v) t x k = v := by
  by_cases h : t = 3
  · subst h
    exact zi_up_eq
  · unfold zi_wt zi_rd
    split
    · exact absurd rfl h
    · split
      · exact absurd rfl h
      · exact zi_up_eq
theorem zi_rd_wt_ne {σ : zM} {t t' : Nat} {x k v j : Int} (h : j ≠ k) : zi_rd (zi_wt σ t x k v) t' x j = zi_rd σ t' x j := by
  unfold zi_wt zi_rd
  split <;> split <;> first | exact zi_up_nk h | rfl
/-- a field is written -/
theorem zi_W_obj {s : State} {D : va_G} {base : Nat} {σ : zM} {H H1 : Heap} {a : Nat} {x : Int} (h : zi_W s D base σ H) (hx : x = (a : Int) + 1) {q : vw_C} (hq : vwCl[(σ.1 x).1]? = some q) {k : Nat} (hk : k < q.2.2) {v : Int} (hv : zi_in (zi_mkv (zi_ft (σ.1 x).1 k) v))
    (hO : t_OB a (D.1 (σ.1 x).1) q.2.2 (D.2 (σ.1 x).1) H1 (updV (fun i => zi_v (zi_mkv (zi_ft (σ.1 x).1 i) (zi_rd σ (zi_ft (σ.1 x).1 i) x i))) k (zi_v (zi_mkv (zi_ft (σ.1 x).1 k) v)))) (hz : H1.size = H.size) (ho : ∀ b, b ≠ a → H1[b]? = H[b]?) : zi_W s D base (zi_wt σ (zi_ft (σ.1 x).1 k) x k v) H1 := by
  obtain ⟨o1, o2, o3⟩ := zi_only_wt (σ := σ) (t := zi_ft (σ.1 x).1 k) (x := x) (k := k) (v := v)
  refine ⟨by rw [hz, o2]; exact h.1, by rw [hz]; exact h.2.1, by rw [o1, o2]; exact h.2.2.1, fun b => ?_⟩
  by_cases hb : b = a
  · subst hb
    rw [← hx]
    obtain ⟨h1, h2, h3⟩ := h.2.2.2 b
    rw [← hx] at h1
    have hlt : (σ.1 x).1 < 11 := by
      have := (List.getElem?_eq_some_iff.mp hq).1
      simpa [vwCl] using this
    refine ⟨fun q' hq' => ?_, fun ty hty => ?_, fun h18 => ?_⟩
    · rw [o1] at hq' ⊢
      have e : q' = q := Option.some.inj (hq'.symm.trans hq)
      subst e
      obtain ⟨a1, a2, a3⟩ := h1 q' hq
      refine ⟨a1, hO.to (fun j hj => ?_), fun j hj => ?_⟩
      · unfold updV
        by_cases hjk : j = k
        · subst hjk; rw [if_pos rfl, zi_rd_wt]
        · rw [if_neg hjk, zi_rd_wt_ne (by omega)]
      · by_cases hjk : j = k
        · subst hjk; rw [zi_rd_wt]; exact hv
        · rw [zi_rd_wt_ne (by omega)]; exact a3 j hj
    · exfalso
      rw [o1] at hty
      unfold zi_ak at hty
      split at hty <;> first | omega | cases hty
    · exfalso
      rw [o1] at h18
      omega
  · exact zi_else (σ := σ) (by rw [o1]) (fun j => (o3 _ j (by omega)).1) (fun j => (o3 _ j (by omega)).2) (ho b hb) (h.2.2.2 b)
/-- a cell of a row is written -/
theorem zi_W_arr {s : State} {D : va_G} {base : Nat} {σ σ' : zM} {H H1 : Heap} {a : Nat} {x : Int} (h : zi_W s D base σ H) (hx : x = (a : Int) + 1) {ty : FieldType} (hty : zi_ak (σ.1 x).1 = some ty) (hM : zi_only σ σ' x) (hv : ∀ j : Nat, j < (σ.1 x).2.toNat → zi_in (zi_mkv (zi_et (σ.1 x).1) (zi_rd σ' (zi_et (σ.1 x).1) x j)))
    (hO : ∀ cA, H[a]? = some (arrV cA (σ.1 x).2.toNat (fun j => zi_v (zi_mkv (zi_et (σ.1 x).1) (zi_rd σ (zi_et (σ.1 x).1) x j)))) → H1[a]? = some (arrV cA (σ.1 x).2.toNat (fun j => zi_v (zi_mkv (zi_et (σ.1 x).1) (zi_rd σ' (zi_et (σ.1 x).1) x j))))) (hz : H1.size = H.size) (ho : ∀ b, b ≠ a → H1[b]? = H[b]?) : zi_W s D base σ' H1 := by
  obtain ⟨o1, o2, o3⟩ := hM
  refine ⟨by rw [hz, o2]; exact h.1, by rw [hz]; exact h.2.1, by rw [o1, o2]; exact h.2.2.1, fun b => ?_⟩
  by_cases hb : b = a
  · subst hb
    rw [← hx]
    obtain ⟨h1, h2, h3⟩ := h.2.2.2 b
    rw [← hx] at h2
    have hk : (12 ≤ (σ.1 x).1 ∧ (σ.1 x).1 ≤ 17) ∨ (σ.1 x).1 = 19 := by
      unfold zi_ak at hty
      split at hty <;> first | omega | cases hty
    refine ⟨fun q' hq' => ?_, fun ty' hty' => ?_, fun h18 => ?_⟩
    · exfalso
      rw [o1] at hq'
      have := (List.getElem?_eq_some_iff.mp hq').1
      simp [vwCl] at this
      omega
    · rw [o1] at hty' ⊢
      have e : ty' = ty := Option.some.inj (hty'.symm.trans hty)
      subst e
      obtain ⟨b1, b2, b3, ⟨cA, c1, c2, c3⟩, b4⟩ := h2 ty' hty
      exact ⟨b1, b2, b3, ⟨cA, c1, c2, hO cA c3⟩, hv⟩
    · exfalso
      rw [o1] at h18
      omega
  · exact zi_else (σ := σ) (by rw [o1]) (fun j => (o3 _ j (by omega)).1) (fun j => (o3 _ j (by omega)).2) (ho b hb) (h.2.2.2 b)
/-- a new cell -/
theorem zi_W_new {s : State} {D : va_G} {base : Nat} {σ : zM} {H H1 : Heap} {k : Nat} {n : Int} {sl : Nat} (h : zi_W s D base σ H) (hk : k ≠ 18) (hz : H1.size = H.size + 1) (ho : ∀ b, b < H.size → H1[b]? = H[b]?)
    (hO : ∀ q, vwCl[k]? = some q → t_OB H.size (D.1 k) q.2.2 (D.2 k) H1 (fun i => zi_v (zi_mkv (zi_ft k i) 0)))
    (hA : ∀ ty, zi_ak k = some ty → zi_ir n ∧ 0 ≤ n ∧ ∃ cA, ArrOfT s cA ty ∧ va_RA s cA ty ∧ H1[H.size]? = some (arrV cA n.toNat (fun _ => zi_v (zi_mkv (zi_et k) 0)))) : zi_W s D base (zi_new σ k n sl) H1 := by
  have hin0 : ∀ t, zi_in (zi_mkv t 0) := by
    intro t
    unfold zi_mkv
    split
    · exact Int.le_refl 0
    · show (-9223372036854775808 : Int) ≤ 0 ∧ (0 : Int) < 9223372036854775808
      omega
    · exact zi_ir0
  have htop := h.1
  have e1 : (zi_new σ k n sl).2.2.2.1 = σ.2.2.2.1 + 1 := rfl
  refine ⟨by rw [hz, e1]; omega, by rw [hz]; exact Nat.le_succ_of_le h.2.1, fun x hx => ?_, fun b => ?_⟩
  · rw [e1]
    by_cases hxt : x = σ.2.2.2.1
    · subst hxt; omega
    · have e2 : (zi_new σ k n sl).1 x = σ.1 x := if_neg hxt
      rw [e2] at hx
      have := h.2.2.1 x hx
      omega
  · by_cases hb : (b : Int) + 1 = σ.2.2.2.1
    · have hbs : b = H.size := by omega
      subst hbs
      have e2 : (zi_new σ k n sl).1 ((H.size : Int) + 1) = (k, n) := if_pos hb
      have e3 : ∀ t j, zi_rd (zi_new σ k n sl) t ((H.size : Int) + 1) j = 0 := by
        intro t j
        unfold zi_rd
        split
        · exact if_pos hb
        · exact if_pos hb
      unfold zi_ao zi_aa zi_as
      simp only [e2, e3]
      refine ⟨fun q hq => ⟨h.2.1, hO q hq, fun i _ => hin0 _⟩, fun ty hty => ?_, fun h18 => absurd h18 hk⟩
      obtain ⟨a1, a2, a3⟩ := hA ty hty
      exact ⟨h.2.1, a1, a2, a3, fun j _ => hin0 _⟩
    · by_cases hlt : b < H.size
      · exact zi_else (σ := σ) (if_neg hb) (fun j => if_neg hb) (fun j => if_neg hb) (ho b hlt) (h.2.2.2 b)
      · have e2 : (zi_new σ k n sl).1 ((b : Int) + 1) = σ.1 ((b : Int) + 1) := if_neg hb
        have h9 : (σ.1 ((b : Int) + 1)).1 = 99 := by
          by_cases h9 : (σ.1 ((b : Int) + 1)).1 = 99
          · exact h9
          · have := h.2.2.1 _ h9; omega
        unfold zi_ao zi_aa zi_as
        simp only [e2, h9]
        refine ⟨fun q hq => by simp [vwCl] at hq, fun ty hty => by simp [zi_ak] at hty, fun h18 => by omega⟩
