/-! each instruction -/
theorem zi_nat0 {vs : List zV} {σ σ' : zM} {r : Int} (h : zi_nat 1000 vs σ = some (r, σ')) : (∃ y, vs = [.inr (.inr y)]) ∧ r = 0 ∧ σ' = σ := by
  unfold zi_nat at h
  split at h <;> simp_all
theorem zi_nat1 {vs : List zV} {σ σ' : zM} {r : Int} (h : zi_nat 1001 vs σ = some (r, σ')) : ∃ x y, vs = [.inl x, .inl y] ∧ r = (if x < y then y else x) ∧ σ' = σ := by
  unfold zi_nat at h
  split at h <;> simp_all
theorem zi_nat2 {vs : List zV} {σ σ' : zM} {r : Int} (h : zi_nat 1002 vs σ = some (r, σ')) : ∃ x y, vs = [.inl x, .inl y] ∧ r = (if y < x then y else x) ∧ σ' = σ := by
  unfold zi_nat at h
  split at h <;> simp_all
theorem zi_nat3 {vs : List zV} {σ σ' : zM} {r : Int} (h : zi_nat 1003 vs σ = some (r, σ')) : ∃ x y, vs = [.inr (.inl x), .inr (.inl y)] ∧ r = (if y < x then x else y) ∧ σ' = σ := by
  unfold zi_nat at h
  split at h <;> simp_all
theorem zi_nat4 {vs : List zV} {σ σ' : zM} {r : Int} (h : zi_nat 1004 vs σ = some (r, σ')) : ∃ x y, vs = [.inr (.inl x), .inr (.inl y)] ∧ r = (if y < x then y else x) ∧ σ' = σ := by
  unfold zi_nat at h
  split at h <;> simp_all
theorem zi_nat5 {vs : List zV} {σ σ' : zM} {r : Int} (h : zi_nat 1005 vs σ = some (r, σ')) : ∃ p s q d n, vs = [.inr (.inr p), .inl s, .inr (.inr q), .inl d, .inl n] ∧ (((σ.1 p).1 = 12 ∧ (σ.1 q).1 = 12) ∧ 0 ≤ s ∧ 0 ≤ d ∧ 0 ≤ n ∧ s + n ≤ (σ.1 p).2 ∧ d + n ≤ (σ.1 q).2) ∧ r = 0 ∧ σ' = (σ.1, zi_cpy σ.2.1 p q s d n, σ.2.2) := by
  unfold zi_nat at h
  split at h
  all_goals try (simp_all; done)
  rename_i p s q d n _
  split at h
  · rename_i hc
    cases h
    exact ⟨p, s, q, d, n, rfl, hc, rfl, rfl⟩
  · cases h
theorem zi_null {x : Int} (h : zi_ro x = none) : zi_v (.inr (.inr x)) = .null := by
  show va_rf (zi_ro x) = _
  rw [h]; rfl
theorem zi_ro0 {x : Int} (h : 0 ≤ x) : zi_ro x = none ↔ x = 0 := by
  unfold zi_ro
  by_cases hx : x ≤ 0
  · rw [if_pos hx]; constructor
    · intro; omega
    · intro; rfl
  · rw [if_neg hx]; constructor
    · intro q; cases q
    · intro; omega
theorem zi_ir1 : zi_ir 1 := by unfold zi_ir; omega
section ZX
variable {p : Program} {l : Launch} {e : Env} {R : Room} {s : State} {m : MethodId} {args : Array Value} {below : List Frame} {meth : Method} {c : Code} {H : Heap} {locs : List Loc} {cells slots : Nat} {Q : State → Prop} {D : va_G} {cc : ByteArray} {nL : Nat} {own : String} {ini : Bool} {base : Nat} {σ0 σ : zM} {recs : List zi_rec} {pc : Nat} {L : Array Slot}
set_option maxHeartbeats 8000000 in
set_option maxRecDepth 10000 in
theorem zi_ex_ok {t : zT} {G : Nat → List zV → zM → zR} {nx : Nat → zL → List zV → zM → zR} {ls : zL} {st : List zV} {res : Int × zM} {nps : List (Nat × Nat)} {pl : List (Nat × Nat × Nat × Int)}
    (C : zi_cx p s m args meth c D cc nL own ini) (hpl : ∀ e ∈ pl, zi_pm recs own e) (hnp : ∀ (a : Nat) (r : zi_rec) (q : Nat × Nat), recs[a]? = some r → nps[a]? = some q → q = (r.2.2.2.1, r.2.2.2.2.2.2.2)) (hwd : Jvm.Cond.arrayClass .int ∈ zi_tb ∧ Jvm.Cond.arrayClass .long ∈ zi_tb)
    (hck : ∀ cl ∈ t.1, decode cc cl.1 = .ok (cl.2.1, zi_len cl.2.1 cl.2.2.2.1) ∧ zi_ck nps own pl ini cl = true)
    (HG1 : zi_G1 l R recs G) (HG2 : zi_G2 R G) (HG3 : zi_G3 G) (hroom : (res.2.2.2.2.1 - σ0.2.2.2.1).toNat ≤ R.cells ∧ res.2.2.2.2.2 - σ0.2.2.2.2 ≤ R.slots)
    (Hm : ∀ pc' ls' st' σ', nx pc' ls' st' σ' = some res → zi_lq σ' res)
    (Hnx : ∀ pc' ls' st' σ' L' H' locs' cells' slots', zi_lr ls' nL L' → (∀ v ∈ st', zi_in v) → zi_I s D base σ0 σ' H' locs' cells' slots' → nx pc' ls' st' σ' = some res → W p l e R s m args below meth c H' locs' cells' slots' Q (F0 m pc' L' (st'.map zi_v)))
    (Hend : ∀ ins, decode cc pc = .ok (ins, 1) → zi_endok t.2.2.2 ins st res.1 → σ = res.2 → W p l e R s m args below meth c H locs cells slots Q (F0 m pc L (st.map zi_v)))
    (I : zi_I s D base σ0 σ H locs cells slots) (hl : zi_lr ls nL L) (hst : ∀ v ∈ st, zi_in v) (h : zi_ex t G nx pc ls st σ = some res) : W p l e R s m args below meth c H locs cells slots Q (F0 m pc L (st.map zi_v)) := by
  have hx := C.1
  have hb := C.2.1
  have hown := C.2.2.2.1
  have hts := C.2.2.2.2.1
  have go : ∀ pc' st', nx pc' ls st' σ = some res → (∀ v ∈ st', zi_in v) → W p l e R s m args below meth c H locs cells slots Q (F0 m pc' L (st'.map zi_v)) := fun pc' st' h2 h1 => Hnx _ _ _ _ _ _ _ _ _ hl h1 I h2
  have cons : ∀ {v : zV} {r : List zV}, zi_in v → (∀ w ∈ r, zi_in w) → ∀ w ∈ v :: r, zi_in w := fun h1 h2 => List.forall_mem_cons.mpr ⟨h1, h2⟩
  have mem : ∀ (σ1 : zM) (H1 : Heap) (locs1 : List Loc) pc' st', zi_W s D base σ1 H1 → (∀ q ∈ locs1, base ≤ q.base) → (∀ v ∈ st', zi_in v) → σ1.2.2.2 = σ.2.2.2 → nx pc' ls st' σ1 = some res → W p l e R s m args below meth c H1 locs1 cells slots Q (F0 m pc' L (st'.map zi_v)) := fun σ1 H1 locs1 pc' st' h1 h2 h3 he h4 => Hnx _ _ _ _ _ _ _ _ _ hl h3 (zi_Ist I he h1 h2) h4
  have made : ∀ (k : Nat) (n : Int) (sl : Nat) pc' st', nx pc' ls st' (zi_new σ k n sl) = some res → (∀ v ∈ st', zi_in v) → cells + 1 ≤ R.cells ∧ slots + sl ≤ R.slots ∧ ∀ H1, zi_W s D base (zi_new σ k n sl) H1 → W p l e R s m args below meth c H1 locs (cells + 1) (slots + sl) Q (F0 m pc' L (st'.map zi_v)) := by
    intro k n sl pc' st' h1 h2
    obtain ⟨-, h3, h4⟩ := zi_lq_new (Hm _ _ _ _ h1)
    obtain ⟨i1, i2, i3, i4, i5, i6⟩ := id I
    refine ⟨by omega, by omega, fun H1 hW => Hnx _ _ _ _ _ _ _ _ _ hl h2 ⟨hW, i2, ?_, ?_, ?_, ?_⟩ h1⟩
    · show cells + 1 = (σ.2.2.2.1 + 1 - σ0.2.2.2.1).toNat
      omega
    · show slots + sl = σ.2.2.2.2 + sl - σ0.2.2.2.2
      omega
    · show σ0.2.2.2.1 ≤ σ.2.2.2.1 + 1
      omega
    · show σ0.2.2.2.2 ≤ σ.2.2.2.2 + sl
      omega
  have topin : 0 ≤ σ.2.2.2.1 := by have := I.1.1; omega
  unfold zi_ex at h
  split at h
  · cases h
  rename_i ins a b sw hf
  obtain ⟨hd, hk⟩ := hck _ (zi_find_mem hf)
  split at h
  · -- iconst
    have hk : (Int32.ofInt _).toInt = b := of_decide_eq_true hk
    refine lv_iconst hx hb hd rfl ?_
    have hbi : zi_ir b := by rw [← hk]; exact zi_to_ir _
    rw [zi_eq32 hk]
    exact go _ (.inl b :: st) h (cons hbi hst)
  · -- bipush
    have hk : ((Int8.ofInt _).toInt32).toInt = b := of_decide_eq_true hk
    refine lv_bipush hx hb hd rfl ?_
    have hbi : zi_ir b := by rw [← hk]; exact zi_to_ir _
    rw [zi_eq32 hk]
    exact go _ (.inl b :: st) h (cons hbi hst)
  · -- sipush
    have hk : ((Int16.ofInt _).toInt32).toInt = b := of_decide_eq_true hk
    refine lv_sipush hx hb hd rfl ?_
    have hbi : zi_ir b := by rw [← hk]; exact zi_to_ir _
    rw [zi_eq32 hk]
    exact go _ (.inl b :: st) h (cons hbi hst)
  · -- ldc_w
    obtain ⟨h1, h2⟩ := hpl _ (of_decide_eq_true hk)
    exact lv_ldcw hx hb hown (hts _ h1) hd (go _ (.inl b :: st) h (cons h2 hst))
  · -- lconst
    have hk : (Int64.ofNat _).toInt = b := of_decide_eq_true hk
    refine lv_lconst hx hb hd rfl ?_
    have hbi : zi_in (.inr (.inl b)) := by rw [← hk]; exact zi_tl_in _
    rw [zi_eq64 hk]
    exact go _ (.inr (.inl b) :: st) h (cons hbi hst)
  · -- ldc2_w
    obtain ⟨h1, h2⟩ := hpl _ (of_decide_eq_true hk)
    exact lv_ldc2 hx hb hown (hts _ h1) hd (go _ (.inr (.inl b) :: st) h (cons h2 hst))
  · -- ldc
    obtain ⟨h1, h2⟩ := hpl _ (of_decide_eq_true hk)
    exact lv_ldc hx hb hown (hts _ h1) hd (go _ (.inl b :: st) h (cons h2 hst))
  · -- aconst_null
    exact lv_null hx hb hd (go _ (.inr (.inr 0) :: st) h (cons (Int.le_refl 0) hst))
  · -- iload_n
    split at h
    · rename_i x hg
      obtain ⟨g1, g2⟩ := hl.2.2.2 _ _ hg
      exact lv_iload_n hx hb hd (Nat.eq_of_beq_eq_true hk) g1 (go _ (.inl x :: st) h (cons g2 hst))
    · cases h
  · -- iload
    split at h
    · rename_i x hg
      obtain ⟨g1, g2⟩ := hl.2.2.2 _ _ hg
      have hk := Nat.eq_of_beq_eq_true hk
      subst hk
      exact lv_iload hx hb hd g1 (go _ (.inl x :: st) h (cons g2 hst))
    · cases h
  · -- lload_n
    split at h
    · rename_i x hg
      obtain ⟨g1, g2⟩ := hl.2.2.2 _ _ hg
      exact lv_lload_n hx hb hd (Nat.eq_of_beq_eq_true hk) g1 (go _ (.inr (.inl x) :: st) h (cons g2 hst))
    · cases h
  · -- lload
    split at h
    · rename_i x hg
      obtain ⟨g1, g2⟩ := hl.2.2.2 _ _ hg
      have hk := Nat.eq_of_beq_eq_true hk
      subst hk
      exact lv_lload hx hb hd g1 (go _ (.inr (.inl x) :: st) h (cons g2 hst))
    · cases h
  · -- aload_n
    split at h
    · rename_i x hg
      obtain ⟨g1, g2⟩ := hl.2.2.2 _ _ hg
      have g3 := go _ (.inr (.inr x) :: st) h (cons g2 hst)
      rw [List.map_cons] at g3
      cases hr : zi_ro x with
      | none =>
        rw [zi_null hr] at g1 g3
        exact lv_aload_nN hx hb hd (Nat.eq_of_beq_eq_true hk) g1 g3
      | some y =>
        rw [zi_vr hr] at g1 g3
        exact lv_aload_n hx hb hd (Nat.eq_of_beq_eq_true hk) g1 g3
    · cases h
  · -- aload
    split at h
    · rename_i x hg
      obtain ⟨g1, g2⟩ := hl.2.2.2 _ _ hg
      have g3 := go _ (.inr (.inr x) :: st) h (cons g2 hst)
      rw [List.map_cons] at g3
      have hk := Nat.eq_of_beq_eq_true hk
      subst hk
      cases hr : zi_ro x with
      | none =>
        rw [zi_null hr] at g1 g3
        exact lv_aloadN hx hb hd g1 g3
      | some y =>
        rw [zi_vr hr] at g1 g3
        exact lv_aload hx hb hd g1 g3
    · cases h
  · -- istore_n
    split at h
    · rename_i x r
      split at h
      · rename_i ls' hs
        exact lv_istore_n hx hb hd (Nat.eq_of_beq_eq_true hk) (zi_lr_has hl) (by rw [← hl.1]; exact (zi_set_spec hs).2.1) rfl fun L' hL' => Hnx _ _ _ _ _ _ _ _ _ (zi_lr_set1 hl hs (hst _ List.mem_cons_self) hL') (fun v hv => hst v (List.mem_cons_of_mem _ hv)) I h
      · cases h
    · cases h
  · -- istore
    split at h
    · rename_i x r
      split at h
      · rename_i ls' hs
        have hk := Nat.eq_of_beq_eq_true hk
        subst hk
        exact lv_istore hx hb hd (zi_lr_has hl) (by rw [← hl.1]; exact (zi_set_spec hs).2.1) rfl fun L' hL' => Hnx _ _ _ _ _ _ _ _ _ (zi_lr_set1 hl hs (hst _ List.mem_cons_self) hL') (fun v hv => hst v (List.mem_cons_of_mem _ hv)) I h
      · cases h
    · cases h
  · -- astore_n
    split at h
    · rename_i x r
      split at h
      · rename_i ls' hs
        rw [List.map_cons]
        have hlt : a < nL := by rw [← hl.1]; exact (zi_set_spec hs).2.1
        cases hr : zi_ro x with
        | none =>
          rw [zi_null hr]
          exact lv_astore_nN hx hb hd (Nat.eq_of_beq_eq_true hk) (zi_lr_has hl) hlt rfl fun L' hL' => Hnx _ _ _ _ _ _ _ _ _ (zi_lr_set1 hl hs (hst _ List.mem_cons_self) (by rw [zi_null hr]; exact hL')) (fun v hv => hst v (List.mem_cons_of_mem _ hv)) I h
        | some y =>
          rw [zi_vr hr]
          exact lv_astore_n hx hb hd (Nat.eq_of_beq_eq_true hk) (zi_lr_has hl) hlt rfl fun L' hL' => Hnx _ _ _ _ _ _ _ _ _ (zi_lr_set1 hl hs (hst _ List.mem_cons_self) (by rw [zi_vr hr]; exact hL')) (fun v hv => hst v (List.mem_cons_of_mem _ hv)) I h
      · cases h
    · cases h
  · -- astore
    split at h
    · rename_i x r
      split at h
      · rename_i ls' hs
        rw [List.map_cons]
        have hk := Nat.eq_of_beq_eq_true hk
        subst hk
        have hlt := (zi_set_spec hs).2.1
        rw [hl.1] at hlt
        cases hr : zi_ro x with
        | none =>
          rw [zi_null hr]
          exact lv_astoreN hx hb hd (zi_lr_has hl) hlt rfl fun L' hL' => Hnx _ _ _ _ _ _ _ _ _ (zi_lr_set1 hl hs (hst _ List.mem_cons_self) (by rw [zi_null hr]; exact hL')) (fun v hv => hst v (List.mem_cons_of_mem _ hv)) I h
        | some y =>
          rw [zi_vr hr]
          exact lv_astore hx hb hd (zi_lr_has hl) hlt rfl fun L' hL' => Hnx _ _ _ _ _ _ _ _ _ (zi_lr_set1 hl hs (hst _ List.mem_cons_self) (by rw [zi_vr hr]; exact hL')) (fun v hv => hst v (List.mem_cons_of_mem _ hv)) I h
      · cases h
    · cases h
  · -- lstore_n
    split at h
    · rename_i x r
      split at h
      · rename_i l1 hs1
        split at h
        · rename_i l2 hs2
          exact lv_lstore_n hx hb hd (Nat.eq_of_beq_eq_true hk) (zi_lr_has hl) (by rw [← hl.1]; exact (zi_set_spec hs1).2.1) rfl fun L' hL' => Hnx _ _ _ _ _ _ _ _ _ (zi_lr_set2 hl hs1 hs2 (hst _ List.mem_cons_self) hL') (fun v hv => hst v (List.mem_cons_of_mem _ hv)) I h
        · cases h
      · cases h
    · cases h
  · -- lstore
    split at h
    · rename_i x r
      split at h
      · rename_i l1 hs1
        split at h
        · rename_i l2 hs2
          have hk := Nat.eq_of_beq_eq_true hk
          subst hk
          exact lv_lstore hx hb hd (zi_lr_has hl) (by rw [← hl.1]; exact (zi_set_spec hs1).2.1) rfl fun L' hL' => Hnx _ _ _ _ _ _ _ _ _ (zi_lr_set2 hl hs1 hs2 (hst _ List.mem_cons_self) hL') (fun v hv => hst v (List.mem_cons_of_mem _ hv)) I h
        · cases h
      · cases h
    · cases h
  · -- iinc
    rename_i i n
    have hk1 : (Nat.beq i a && decide (n = b ∧ -32768 ≤ n ∧ n ≤ 32767)) = true := hk
    rw [Bool.and_eq_true] at hk1
    have hk2 := Nat.eq_of_beq_eq_true hk1.1
    obtain ⟨e1, e2, e3⟩ : n = b ∧ -32768 ≤ n ∧ n ≤ 32767 := of_decide_eq_true hk1.2
    subst hk2; subst e1
    split at h
    · rename_i x hg
      split at h
      · rename_i ls' hs
        obtain ⟨g1, g2⟩ := hl.2.2.2 _ _ hg
        obtain ⟨k, hk⟩ := List.getElem?_of_mem (zi_ll_mem.mpr ⟨_, hg, rfl⟩ : (i, zi_v (.inl x)) ∈ zi_ll ls)
        exact lv_iinc hx hb hd (zi_lr_has hl) hk (zi_add g2 (by unfold zi_ir; omega)) (by rw [← hl.1]; exact (zi_set_spec hs).2.1) rfl fun L' hL' => Hnx _ _ _ _ _ _ _ _ _ (zi_lr_set1 hl hs (zi_w_ir _) hL') hst I h
      · cases h
    · cases h
  · -- iadd
    split at h
    · rename_i y x r
      have iy : zi_ir y := hst _ List.mem_cons_self
      have ix : zi_ir x := hst _ (List.mem_cons_of_mem _ List.mem_cons_self)
      have g := go _ (.inl (zi_w (x + y)) :: r) h (cons (zi_w_ir _) fun v hv => hst v (List.mem_cons_of_mem _ (List.mem_cons_of_mem _ hv)))
      rw [List.map_cons, zi_v, ← zi_add ix iy] at g
      exact lv_iadd hx hb hd g
    · cases h
  · -- isub
    split at h
    · rename_i y x r
      have iy : zi_ir y := hst _ List.mem_cons_self
      have ix : zi_ir x := hst _ (List.mem_cons_of_mem _ List.mem_cons_self)
      have g := go _ (.inl (zi_w (x - y)) :: r) h (cons (zi_w_ir _) fun v hv => hst v (List.mem_cons_of_mem _ (List.mem_cons_of_mem _ hv)))
      rw [List.map_cons, zi_v, ← zi_sub ix iy] at g
      exact lv_isub hx hb hd g
    · cases h
  · -- imul
    split at h
    · rename_i y x r
      have iy : zi_ir y := hst _ List.mem_cons_self
      have ix : zi_ir x := hst _ (List.mem_cons_of_mem _ List.mem_cons_self)
      have g := go _ (.inl (zi_w (x * y)) :: r) h (cons (zi_w_ir _) fun v hv => hst v (List.mem_cons_of_mem _ (List.mem_cons_of_mem _ hv)))
      rw [List.map_cons, zi_v, ← zi_mul ix iy] at g
      exact lv_imul hx hb hd g
    · cases h
  · -- idiv
    split at h
    · rename_i y x r
      split at h
      · cases h
      rename_i hy0
      have iy : zi_ir y := hst _ List.mem_cons_self
      have ix : zi_ir x := hst _ (List.mem_cons_of_mem _ List.mem_cons_self)
      have g := go _ (.inl (zi_div x y) :: r) h (cons (zi_w_ir _) fun v hv => hst v (List.mem_cons_of_mem _ (List.mem_cons_of_mem _ hv)))
      rw [List.map_cons, zi_v, ← zi_divE ix iy] at g
      exact lv_idiv hx hb hd (by rw [zi_z, zi_eq iy zi_ir0]; exact hy0) g
    · cases h
  · -- irem
    split at h
    · rename_i y x r
      split at h
      · cases h
      rename_i hy0
      have iy : zi_ir y := hst _ List.mem_cons_self
      have ix : zi_ir x := hst _ (List.mem_cons_of_mem _ List.mem_cons_self)
      have g := go _ (.inl (zi_rem x y) :: r) h (cons (zi_w_ir _) fun v hv => hst v (List.mem_cons_of_mem _ (List.mem_cons_of_mem _ hv)))
      rw [List.map_cons, zi_v, ← zi_remE ix iy] at g
      exact lv_irem hx hb hd (by rw [zi_z, zi_eq iy zi_ir0]; exact hy0) g
    · cases h
  · -- iand
    split at h
    · rename_i y x r
      have g := go _ (.inl (zi_and x y) :: r) h (cons (zi_and_ir _ _) fun v hv => hst v (List.mem_cons_of_mem _ (List.mem_cons_of_mem _ hv)))
      rw [List.map_cons, zi_v, ← zi_andE] at g
      exact lv_iand hx hb hd g
    · cases h
  · -- ixor
    split at h
    · rename_i y x r
      have g := go _ (.inl (zi_xor x y) :: r) h (cons (zi_xor_ir _ _) fun v hv => hst v (List.mem_cons_of_mem _ (List.mem_cons_of_mem _ hv)))
      rw [List.map_cons, zi_v, ← zi_xorE] at g
      exact lv_ixor hx hb hd g
    · cases h
  · -- ishr
    split at h
    · rename_i y x r
      have g := go _ (.inl (zi_shr x y) :: r) h (cons (zi_shr_ir _ _) fun v hv => hst v (List.mem_cons_of_mem _ (List.mem_cons_of_mem _ hv)))
      rw [List.map_cons, zi_v, ← zi_shrE] at g
      exact lv_ishr hx hb hd g
    · cases h
  · -- ladd
    split at h
    · rename_i y x r
      have iy := hst _ List.mem_cons_self
      have ix := hst _ (List.mem_cons_of_mem _ List.mem_cons_self)
      have g := go _ (.inr (.inl (zi_w64 (x + y))) :: r) h (cons (zi_w64_in _) fun v hv => hst v (List.mem_cons_of_mem _ (List.mem_cons_of_mem _ hv)))
      rw [List.map_cons, zi_v, ← zi_ladd ix iy] at g
      exact lv_ladd hx hb hd g
    · cases h
  · -- lsub
    split at h
    · rename_i y x r
      have iy := hst _ List.mem_cons_self
      have ix := hst _ (List.mem_cons_of_mem _ List.mem_cons_self)
      have g := go _ (.inr (.inl (zi_w64 (x - y))) :: r) h (cons (zi_w64_in _) fun v hv => hst v (List.mem_cons_of_mem _ (List.mem_cons_of_mem _ hv)))
      rw [List.map_cons, zi_v, ← zi_lsub ix iy] at g
      exact lv_lsub hx hb hd g
    · cases h
  · -- land
    split at h
    · rename_i y x r
      have g := go _ (.inr (.inl (zi_land x y)) :: r) h (cons (zi_tl_in _) fun v hv => hst v (List.mem_cons_of_mem _ (List.mem_cons_of_mem _ hv)))
      rw [List.map_cons, zi_v, ← zi_landE] at g
      exact lv_land hx hb hd g
    · cases h
  · -- lor
    split at h
    · rename_i y x r
      have g := go _ (.inr (.inl (zi_lor x y)) :: r) h (cons (zi_tl_in _) fun v hv => hst v (List.mem_cons_of_mem _ (List.mem_cons_of_mem _ hv)))
      rw [List.map_cons, zi_v, ← zi_lorE] at g
      exact lv_lor hx hb hd g
    · cases h
  · -- lxor
    split at h
    · rename_i y x r
      have g := go _ (.inr (.inl (zi_lxor x y)) :: r) h (cons (zi_tl_in _) fun v hv => hst v (List.mem_cons_of_mem _ (List.mem_cons_of_mem _ hv)))
      rw [List.map_cons, zi_v, ← zi_lxorE] at g
      exact lv_lxor hx hb hd g
    · cases h
  · -- lshl
    split at h
    · rename_i y x r
      exact lv_lshl hx hb hd (zi_lshlE x y) (go _ (.inr (.inl (zi_lshl x y)) :: r) h (cons (zi_tl_in _) fun v hv => hst v (List.mem_cons_of_mem _ (List.mem_cons_of_mem _ hv))))
    · cases h
  · -- lcmp
    split at h
    · rename_i y x r
      have iy := hst _ List.mem_cons_self
      have ix := hst _ (List.mem_cons_of_mem _ List.mem_cons_self)
      have g := go _ (.inl (if y < x then 1 else if x = y then 0 else -1) :: r) h (cons (by
        show zi_ir _
        unfold zi_ir
        split
        · omega
        · split <;> omega) fun v hv => hst v (List.mem_cons_of_mem _ (List.mem_cons_of_mem _ hv)))
      rw [List.map_cons, zi_v, ← zi_cmp ix iy] at g
      exact W.lcmp hx hb hd g
    · cases h
  · -- i2l
    split at h
    · rename_i x r
      have ix : zi_ir x := hst _ List.mem_cons_self
      exact lv_i2l hx hb hd (zi_i2l ix) (go _ (.inr (.inl x) :: r) h (cons (zi_i2l_in ix) fun v hv => hst v (List.mem_cons_of_mem _ hv)))
    · cases h
  · -- l2i
    split at h
    · rename_i x r
      have ix := hst _ List.mem_cons_self
      exact lv_l2i hx hb hd (zi_l2i ix) (go _ (.inl (zi_w x) :: r) h (cons (zi_w_ir _) fun v hv => hst v (List.mem_cons_of_mem _ hv)))
    · cases h
  · -- i2b
    split at h
    · rename_i x r
      exact lv_i2b hx hb hd (zi_i2bE x) (go _ (.inl (zi_i2b x) :: r) h (cons (zi_to_ir _) fun v hv => hst v (List.mem_cons_of_mem _ hv)))
    · cases h
  · -- i2c
    split at h
    · rename_i x r
      exact lv_i2c hx hb hd (zi_i2cE x) (go _ (.inl (zi_i2c x) :: r) h (cons (zi_to_ir _) fun v hv => hst v (List.mem_cons_of_mem _ hv)))
    · cases h
  · -- i2s
    split at h
    · rename_i x r
      exact lv_i2s hx hb hd (zi_i2sE x) (go _ (.inl (zi_i2s x) :: r) h (cons (zi_to_ir _) fun v hv => hst v (List.mem_cons_of_mem _ hv)))
    · cases h
  · -- dup
    split at h
    · rename_i v r
      rw [cond_eq_ite] at h
      split at h
      · rename_i hc
        exact lv_dup hx hb hd (zi_v_cat1 hc) (go _ (v :: v :: r) h (cons (hst _ List.mem_cons_self) hst))
      · cases h
    · cases h
  · -- dup2
    split at h
    · rename_i v w r
      rw [cond_eq_ite] at h
      split at h
      · rename_i hc
        rw [Bool.and_eq_true] at hc
        exact lv_dup2_11 hx hb hd (zi_v_cat1 hc.1) (zi_v_cat1 hc.2) (go _ (v :: w :: v :: w :: r) h (cons (hst _ List.mem_cons_self) (cons (hst _ (List.mem_cons_of_mem _ List.mem_cons_self)) hst)))
      · cases h
    · cases h
  · -- pop
    split at h
    · rename_i v r
      rw [cond_eq_ite] at h
      split at h
      · rename_i hc
        exact lv_pop hx hb hd (zi_v_cat1 hc) (go _ r h fun v hv => hst v (List.mem_cons_of_mem _ hv))
      · cases h
    · cases h
  · -- ifCond
    rename_i cd off
    have hkk : (pc : Int) + off = (a : Int) := of_decide_eq_true hk
    split at h
    · rename_i x r
      have ix : zi_ir x := hst _ List.mem_cons_self
      have ir : ∀ v ∈ r, zi_in v := fun v hv => hst v (List.mem_cons_of_mem _ hv)
      cases cd <;> (simp only [zi_if] at h)
      · refine lv_if_eq hx hb hd hkk (fun q => ?_) (fun q => ?_) <;> rw [zi_z, zi_eq ix zi_ir0] at q
        · rw [if_pos q] at h; exact go _ r h ir
        · rw [if_neg q] at h; exact go _ r h ir
      · refine lv_if_ne hx hb hd hkk (fun q => ?_) (fun q => ?_) <;> rw [zi_z, zi_eq ix zi_ir0] at q
        · rw [if_neg q] at h; exact go _ r h ir
        · rw [if_pos q] at h; exact go _ r h ir
      · refine lv_if_lt hx hb hd hkk (fun q => ?_) (fun q => ?_) <;> rw [zi_z, zi_lt ix zi_ir0] at q
        · rw [if_pos q] at h; exact go _ r h ir
        · rw [if_neg q] at h; exact go _ r h ir
      · refine lv_if_ge hx hb hd hkk (fun q => ?_) (fun q => ?_) <;> rw [zi_z, zi_le zi_ir0 ix] at q
        · rw [if_neg (by omega)] at h; exact go _ r h ir
        · rw [if_pos (by omega)] at h; exact go _ r h ir
      · refine lv_if_gt hx hb hd hkk (fun q => ?_) (fun q => ?_) <;> rw [zi_z, zi_lt zi_ir0 ix] at q
        · rw [if_pos q] at h; exact go _ r h ir
        · rw [if_neg q] at h; exact go _ r h ir
      · refine lv_if_le hx hb hd hkk (fun q => ?_) (fun q => ?_) <;> rw [zi_z, zi_le ix zi_ir0] at q
        · rw [if_neg (by omega)] at h; exact go _ r h ir
        · rw [if_pos (by omega)] at h; exact go _ r h ir
    · cases h
  · -- if_icmp
    rename_i cd off
    have hkk : (pc : Int) + off = (a : Int) := of_decide_eq_true hk
    split at h
    · rename_i y x r
      have iy : zi_ir y := hst _ List.mem_cons_self
      have ix : zi_ir x := hst _ (List.mem_cons_of_mem _ List.mem_cons_self)
      have ir : ∀ v ∈ r, zi_in v := fun v hv => hst v (List.mem_cons_of_mem _ (List.mem_cons_of_mem _ hv))
      cases cd <;> (simp only [zi_if] at h)
      · refine lv_icmp_eq hx hb hd hkk (fun q => ?_) (fun q => ?_) <;> rw [zi_eq ix iy] at q
        · rw [if_pos q] at h; exact go _ r h ir
        · rw [if_neg q] at h; exact go _ r h ir
      · refine lv_icmp_ne hx hb hd hkk (fun q => ?_) (fun q => ?_) <;> rw [zi_eq ix iy] at q
        · rw [if_neg q] at h; exact go _ r h ir
        · rw [if_pos q] at h; exact go _ r h ir
      · refine lv_icmp_lt hx hb hd hkk (fun q => ?_) (fun q => ?_) <;> rw [zi_lt ix iy] at q
        · rw [if_pos q] at h; exact go _ r h ir
        · rw [if_neg q] at h; exact go _ r h ir
      · refine lv_icmp_ge hx hb hd hkk (fun q => ?_) (fun q => ?_) <;> rw [zi_le iy ix] at q
        · rw [if_neg (by omega)] at h; exact go _ r h ir
        · rw [if_pos (by omega)] at h; exact go _ r h ir
      · refine lv_icmp_gt hx hb hd hkk (fun q => ?_) (fun q => ?_) <;> rw [zi_lt iy ix] at q
        · rw [if_pos q] at h; exact go _ r h ir
        · rw [if_neg q] at h; exact go _ r h ir
      · refine lv_icmp_le hx hb hd hkk (fun q => ?_) (fun q => ?_) <;> rw [zi_le ix iy] at q
        · rw [if_neg (by omega)] at h; exact go _ r h ir
        · rw [if_pos (by omega)] at h; exact go _ r h ir
    · cases h
  · -- ifnull
    have hk : (pc : Int) + _ = (a : Int) := of_decide_eq_true hk
    split at h
    · rename_i x r
      have ix : 0 ≤ x := hst _ List.mem_cons_self
      have ir : ∀ v ∈ r, zi_in v := fun v hv => hst v (List.mem_cons_of_mem _ hv)
      rw [List.map_cons]
      cases hr : zi_ro x with
      | none =>
        rw [if_pos ((zi_ro0 ix).mp hr)] at h
        rw [zi_null hr]
        exact lv_ifnullN hx hb hd hk (go _ r h ir)
      | some y =>
        rw [if_neg (fun q => by rw [(zi_ro0 ix).mpr q] at hr; cases hr)] at h
        rw [zi_vr hr]
        exact lv_ifnull hx hb hd (go _ r h ir)
    · cases h
  · -- ifnonnull
    have hk : (pc : Int) + _ = (a : Int) := of_decide_eq_true hk
    split at h
    · rename_i x r
      have ix : 0 ≤ x := hst _ List.mem_cons_self
      have ir : ∀ v ∈ r, zi_in v := fun v hv => hst v (List.mem_cons_of_mem _ hv)
      rw [List.map_cons]
      cases hr : zi_ro x with
      | none =>
        rw [if_pos ((zi_ro0 ix).mp hr)] at h
        rw [zi_null hr]
        exact lv_ifnonnullN hx hb hd (go _ r h ir)
      | some y =>
        rw [if_neg (fun q => by rw [(zi_ro0 ix).mpr q] at hr; cases hr)] at h
        rw [zi_vr hr]
        exact lv_ifnonnull hx hb hd hk (go _ r h ir)
    · cases h
  · -- goto
    exact lv_goto hx hb hd (of_decide_eq_true hk) (go _ st h hst)
  · -- tableswitch
    rename_i d lo hi offs
    obtain ⟨h1, h2, h3, h4, h5⟩ : (pc : Int) + d = (a : Int) ∧ lo ≤ hi ∧ (offs.size : Int) = hi - lo + 1 ∧ sw = (List.range offs.size).map (fun i : Nat => (lo + (i : Int), ((pc : Int) + offs.getD i 0).toNat)) ∧ ∀ o ∈ offs.toList, 0 ≤ (pc : Int) + o := of_decide_eq_true hk
    split at h
    · rename_i x r
      have ix : zi_ir x := hst _ List.mem_cons_self
      have ir : ∀ v ∈ r, zi_in v := fun v hv => hst v (List.mem_cons_of_mem _ hv)
      rcases zi_sw_cases h with ⟨q, hq, hxq, h⟩ | ⟨hno, h⟩
      · rw [h4] at hq
        obtain ⟨i, hi, rfl⟩ := List.mem_map.mp hq
        have hi' := List.mem_range.mp hi
        change x = lo + (i : Int) at hxq
        have hoi : offs[i]? = some offs[i] := Array.getElem?_eq_getElem hi'
        have hge := h5 offs[i] (Array.mem_toList_iff.mpr (Array.getElem_mem hi'))
        have hgd : offs.getD i 0 = offs[i] := by rw [Array.getD_eq_getD_getElem?, hoi]; rfl
        refine lv_tableIn (x := Int32.ofInt x) (off := offs[i]) (tgt := ((pc : Int) + offs.getD i 0).toNat) hx hb hd (by rw [zi_oi' ix]; omega) (by rw [zi_oi' ix]; omega) (by rw [zi_oi' ix, show (x - lo).toNat = i by omega]; exact hoi) (by rw [hgd]; omega) (go _ r h ir)
      · refine lv_tableOut (x := Int32.ofInt x) hx hb hd ?_ h1 (go _ r h ir)
        rw [zi_oi' ix]
        by_cases hc : x < lo ∨ hi < x
        · exact hc
        · exfalso
          have hlt : (x - lo).toNat < offs.size := by omega
          refine hno (lo + ((x - lo).toNat : Int), ((pc : Int) + offs.getD (x - lo).toNat 0).toNat) (by rw [h4]; exact List.mem_map.mpr ⟨(x - lo).toNat, List.mem_range.mpr hlt, rfl⟩) ?_
          show x = lo + ((x - lo).toNat : Int)
          omega
    · cases h
  · -- lookupswitch
    rename_i d ps
    have hk1 : (decide ((pc : Int) + d = (a : Int) ∧ sw = ps.toList.map (fun q => (q.1, ((pc : Int) + q.2).toNat)) ∧ (∀ q ∈ ps.toList, 0 ≤ (pc : Int) + q.2)) && (ps.toList.zip (ps.toList.drop 1)).all (fun (x, next) => decide (x.1 < next.1))) = true := hk
    rw [Bool.and_eq_true] at hk1
    obtain ⟨h1, h4, h5⟩ := of_decide_eq_true hk1.1
    split at h
    · rename_i x r
      have ix : zi_ir x := hst _ List.mem_cons_self
      have ir : ∀ v ∈ r, zi_in v := fun v hv => hst v (List.mem_cons_of_mem _ hv)
      rw [h4] at h
      obtain ⟨tgt, off, g1, g2, g3⟩ : ∃ (tgt : Nat) (off : Int), Op.lookupswitch.offset ps.toList d x = off ∧ (pc : Int) + off = (tgt : Int) ∧ nx tgt ls r σ = some res := by
        clear hk hk1 hd hf h4
        generalize ps.toList = lst at h h5 ⊢
        induction lst with
        | nil => exact ⟨a, d, rfl, h1, h⟩
        | cons q w ih =>
          rw [List.map_cons] at h
          unfold zi_sw at h
          by_cases hxq : x = q.1
          · rw [if_pos hxq] at h
            refine ⟨_, q.2, ?_, ?_, h⟩
            · unfold Op.lookupswitch.offset
              simp [hxq]
            · have := h5 q List.mem_cons_self
              omega
          · rw [if_neg hxq] at h
            obtain ⟨tgt, off, g1, g2, g3⟩ := ih h (fun z hz => h5 z (List.mem_cons_of_mem _ hz))
            refine ⟨tgt, off, ?_, g2, g3⟩
            rw [← g1]
            obtain ⟨q1, q2⟩ := q
            have hne : ¬ q1 = x := fun z => hxq z.symm
            show lookupswitch.offset ((q1, q2) :: w) d x = lookupswitch.offset w d x
            rw [lookupswitch.offset, if_neg hne]
      exact lv_lookup (x := Int32.ofInt x) hx hb hd hk1.2 (by rw [zi_oi' ix]; exact g1) g2 (go _ r g3 ir)
    · cases h
  · -- getfield
    have hk := of_decide_eq_true hk
    split at h
    · rename_i x r
      split at h
      · rename_i hkd
        have ir : ∀ v ∈ r, zi_in v := fun v hv => hst v (List.mem_cons_of_mem _ hv)
        exact zi_getf C I.1 (hk.imp (hpl _) (hpl _)) hkd hd fun hv => go _ (_ :: r) h (cons hv ir)
      · cases h
    · cases h
  · -- putfield
    rename_i idx
    have hk1 : (decide ((idx, 0, a, b) ∈ pl ∨ (idx, 1, a, b) ∈ pl) && (match vwCl[a]? with
      | some q => !(q.2.1 b.toNat).2.2.2 || (ini && decide (q.1 = own) && decide ((idx, 0, a, b) ∈ pl))
      | none => false)) = true := hk
    rw [Bool.and_eq_true] at hk1
    have hk2 := of_decide_eq_true hk1.1
    have hfin : ∀ q, vwCl[a]? = some q → (q.2.1 b.toNat).2.2.2 = false ∨ (ini = true ∧ q.1 = own ∧ zi_pm recs own (idx, 0, a, b)) := by
      intro q hq
      have h1 := hk1.2
      rw [hq] at h1
      simp only [Bool.or_eq_true, Bool.not_eq_true', Bool.and_eq_true, decide_eq_true_eq] at h1
      rcases h1 with h1 | ⟨⟨h1, h2⟩, h3⟩
      · exact Or.inl h1
      · exact Or.inr ⟨h1, h2, hpl _ h3⟩
    split at h
    · rename_i hft
      split at h
      · rename_i v x r
        split at h
        · rename_i hkd
          have ir : ∀ w ∈ r, zi_in w := fun w hw => hst w (List.mem_cons_of_mem _ (List.mem_cons_of_mem _ hw))
          have iv : zi_ir v := hst _ List.mem_cons_self
          have ev : zi_v (zi_mkv (zi_ft a b.toNat) v) = .int (Int32.ofInt v) := by rw [hft]; rfl
          have g := zi_putf (l := l) (e := e) (R := R) (below := below) (cells := cells) (slots := slots) (Q := Q) (L := L) (rest := r.map zi_v) C I.1 I.2.1 (hk2.imp (hpl _) (hpl _)) hfin hkd (fun q => by rw [hft] at q; cases q) (v := v) (by rw [hft]; exact iv) hd (fun H1 locs1 g1 g2 => mem (zi_wr σ x b v) H1 locs1 _ r (by rw [hft] at g1; exact g1) g2 ir rfl h)
          rw [ev] at g
          exact g
        · cases h
      · cases h
    · rename_i hft
      split at h
      · rename_i v x r
        split at h
        · rename_i hkd
          have ir : ∀ w ∈ r, zi_in w := fun w hw => hst w (List.mem_cons_of_mem _ (List.mem_cons_of_mem _ hw))
          have iv : zi_ir v := hst _ List.mem_cons_self
          have ev : zi_v (zi_mkv (zi_ft a b.toNat) v) = .int (Int32.ofInt v) := by rw [hft]; rfl
          have g := zi_putf (l := l) (e := e) (R := R) (below := below) (cells := cells) (slots := slots) (Q := Q) (L := L) (rest := r.map zi_v) C I.1 I.2.1 (hk2.imp (hpl _) (hpl _)) hfin hkd.1 (fun _ => hkd.2) (v := v) (by rw [hft]; exact iv) hd (fun H1 locs1 g1 g2 => mem (zi_wr σ x b v) H1 locs1 _ r (by rw [hft] at g1; exact g1) g2 ir rfl h)
          rw [ev] at g
          exact g
        · cases h
      · cases h
    · rename_i hft
      split at h
      · rename_i v x r
        split at h
        · rename_i hkd
          have ir : ∀ w ∈ r, zi_in w := fun w hw => hst w (List.mem_cons_of_mem _ (List.mem_cons_of_mem _ hw))
          have iv : zi_in (.inr (.inr v)) := hst _ List.mem_cons_self
          have ev : zi_v (zi_mkv (zi_ft a b.toNat) v) = zi_v (.inr (.inr v)) := by rw [hft]; rfl
          have g := zi_putf (l := l) (e := e) (R := R) (below := below) (cells := cells) (slots := slots) (Q := Q) (L := L) (rest := r.map zi_v) C I.1 I.2.1 (hk2.imp (hpl _) (hpl _)) hfin hkd (fun q => by rw [hft] at q; cases q) (v := v) (by rw [hft]; exact iv) hd (fun H1 locs1 g1 g2 => mem (zi_wq σ x b v) H1 locs1 _ r (by rw [hft] at g1; exact g1) g2 ir rfl h)
          rw [ev] at g
          exact g
        · cases h
      · cases h
    · cases h
  · -- iaload
    have hk1 : (Nat.beq a 12 || Nat.beq a 18) = true := hk
    rw [Bool.or_eq_true] at hk1
    split at h
    · rename_i j x r
      split at h
      · rename_i hc
        have ij : zi_ir j := hst _ List.mem_cons_self
        have ir : ∀ v ∈ r, zi_in v := fun v hv => hst v (List.mem_cons_of_mem _ (List.mem_cons_of_mem _ hv))
        refine zi_iald C I.1 (x := x) (j := j) ?_ ij hc.2.1 hc.2.2 hd (fun hv => go _ (.inl _ :: r) h (cons hv ir))
        rcases hk1 with h1 | h1
        · exact Or.inl (hc.1.trans (Nat.eq_of_beq_eq_true h1))
        · exact Or.inr (hc.1.trans (Nat.eq_of_beq_eq_true h1))
      · cases h
    · cases h
  · -- iastore
    split at h
    · rename_i v j x r
      split at h
      · rename_i hc
        have iv : zi_ir v := hst _ List.mem_cons_self
        have ij : zi_ir j := hst _ (List.mem_cons_of_mem _ List.mem_cons_self)
        have ir : ∀ v ∈ r, zi_in v := fun v hv => hst v (List.mem_cons_of_mem _ (List.mem_cons_of_mem _ (List.mem_cons_of_mem _ hv)))
        exact zi_iast C I.1 I.2.1 (x := x) (j := j) (v := v) hc.1 ij hc.2.1 hc.2.2 iv hd (fun H1 locs1 g1 g2 => mem (zi_wr σ x j v) H1 locs1 _ r g1 g2 ir rfl h)
      · cases h
    · cases h
  · -- baload
    split at h
    · rename_i j x r
      split at h
      · rename_i hc
        have ij : zi_ir j := hst _ List.mem_cons_self
        have ir : ∀ v ∈ r, zi_in v := fun v hv => hst v (List.mem_cons_of_mem _ (List.mem_cons_of_mem _ hv))
        exact zi_zald C I.1 (x := x) (j := j) hc.1 ij hc.2.1 hc.2.2 hd (fun hv => go _ (.inl _ :: r) h (cons hv ir))
      · cases h
    · cases h
  · -- bastore
    split at h
    · rename_i v j x r
      split at h
      · rename_i hc
        have ij : zi_ir j := hst _ (List.mem_cons_of_mem _ List.mem_cons_self)
        have ir : ∀ v ∈ r, zi_in v := fun v hv => hst v (List.mem_cons_of_mem _ (List.mem_cons_of_mem _ (List.mem_cons_of_mem _ hv)))
        exact zi_zast C I.1 I.2.1 (x := x) (j := j) (v := v) hc.1.1 ij hc.1.2.1 hc.1.2.2 hc.2 hd (fun H1 locs1 g1 g2 => mem (zi_wr σ x j v) H1 locs1 _ r g1 g2 ir rfl h)
      · cases h
    · cases h
  · -- laload
    split at h
    · rename_i j x r
      split at h
      · rename_i hc
        have ij : zi_ir j := hst _ List.mem_cons_self
        have ir : ∀ v ∈ r, zi_in v := fun v hv => hst v (List.mem_cons_of_mem _ (List.mem_cons_of_mem _ hv))
        exact zi_lald C I.1 (x := x) (j := j) hc.1 ij hc.2.1 hc.2.2 hd (fun hv => go _ (.inr (.inl _) :: r) h (cons hv ir))
      · cases h
    · cases h
  · -- lastore
    split at h
    · rename_i v j x r
      split at h
      · rename_i hc
        have iv : zi_in (.inr (.inl v)) := hst _ List.mem_cons_self
        have ij : zi_ir j := hst _ (List.mem_cons_of_mem _ List.mem_cons_self)
        have ir : ∀ v ∈ r, zi_in v := fun v hv => hst v (List.mem_cons_of_mem _ (List.mem_cons_of_mem _ (List.mem_cons_of_mem _ hv)))
        exact zi_last C I.1 I.2.1 (x := x) (j := j) (v := v) hc.1 ij hc.2.1 hc.2.2 iv hd (fun H1 locs1 g1 g2 => mem (zi_wr σ x j v) H1 locs1 _ r g1 g2 ir rfl h)
      · cases h
    · cases h
  · -- aaload
    have hk1 : (Nat.ble 14 a && Nat.ble a 17) = true := hk
    rw [Bool.and_eq_true] at hk1
    split at h
    · rename_i j x r
      split at h
      · rename_i hc
        have ij : zi_ir j := hst _ List.mem_cons_self
        have ir : ∀ v ∈ r, zi_in v := fun v hv => hst v (List.mem_cons_of_mem _ (List.mem_cons_of_mem _ hv))
        exact zi_aald C I.1 (x := x) (j := j) hc.1 ⟨Nat.le_of_ble_eq_true hk1.1, Nat.le_of_ble_eq_true hk1.2⟩ ij hc.2.1 hc.2.2 hd (fun hv => go _ (.inr (.inr _) :: r) h (cons hv ir))
      · cases h
    · cases h
  · -- aastore
    have hk1 : (Nat.ble 14 a && Nat.ble a 17 && decide (0 ≤ b) && (match vwCl[b.toNat]? with
      | some q => decide (zi_ak a = some (.object q.1))
      | none => false)) = true := hk
    rw [Bool.and_eq_true, Bool.and_eq_true, Bool.and_eq_true] at hk1
    obtain ⟨⟨⟨k1, k2⟩, k3⟩, k4⟩ := hk1
    have k3 := of_decide_eq_true k3
    split at h
    · rename_i v j x r
      split at h
      · rename_i hc
        have ij : zi_ir j := hst _ (List.mem_cons_of_mem _ List.mem_cons_self)
        have ir : ∀ v ∈ r, zi_in v := fun v hv => hst v (List.mem_cons_of_mem _ (List.mem_cons_of_mem _ (List.mem_cons_of_mem _ hv)))
        cases hq : vwCl[b.toNat]? with
        | none => rw [hq] at k4; cases k4
        | some q =>
          rw [hq] at k4
          have hvb : (σ.1 v).1 = b.toNat := by have := hc.2; omega
          exact zi_aast C I.1 I.2.1 (x := x) (j := j) (v := v) hc.1.1 (of_decide_eq_true k4) (Nat.le_of_ble_eq_true k1) hq rfl hvb ij hc.1.2.1 hc.1.2.2 hd (fun H1 locs1 g1 g2 => mem (zi_wq σ x j v) H1 locs1 _ r g1 g2 ir rfl h)
      · cases h
    · cases h
  · -- arraylength
    have hk1 : (Nat.ble 12 a && Nat.ble a 18) = true := hk
    rw [Bool.and_eq_true] at hk1
    split at h
    · rename_i x r
      split at h
      · rename_i hc
        have ir : ∀ v ∈ r, zi_in v := fun v hv => hst v (List.mem_cons_of_mem _ hv)
        exact zi_alen C I.1 (x := x) hc ⟨Nat.le_of_ble_eq_true hk1.1, Nat.le_of_ble_eq_true hk1.2⟩ hd (fun hv => go _ (.inl _ :: r) h (cons hv ir))
      · cases h
    · cases h
  · -- newarray
    have hk := of_decide_eq_true hk
    split at h
    · rename_i n r
      split at h
      · rename_i hc
        have ir : ∀ v ∈ r, zi_in v := fun v hv => hst v (List.mem_cons_of_mem _ hv)
        obtain ⟨g1, g2, g3⟩ := made _ _ _ _ (.inr (.inr σ.2.2.2.1) :: r) h (cons topin ir)
        exact zi_newI C I.1 hk hwd hc.1 hc.2 g1 g2 hd g3
      · cases h
    · cases h
  · -- anewarray
    have hk := of_decide_eq_true hk
    split at h
    · rename_i n r
      split at h
      · rename_i hc
        have ir : ∀ v ∈ r, zi_in v := fun v hv => hst v (List.mem_cons_of_mem _ hv)
        obtain ⟨g1, g2, g3⟩ := made _ _ _ _ (.inr (.inr σ.2.2.2.1) :: r) h (cons topin ir)
        exact zi_newQ C I.1 (hpl _ hk) hc.1 hc.2 g1 g2 hd g3
      · cases h
    · cases h
  · -- new
    have hk := of_decide_eq_true hk
    obtain ⟨g1, g2, g3⟩ := made _ _ _ _ (.inr (.inr σ.2.2.2.1) :: st) h (cons topin hst)
    exact zi_newO C I.1 (hpl _ hk) g1 g2 hd g3
  · -- invokestatic
    rename_i idx
    have hk1 : ((decide ((idx, 2, a, b) ∈ pl ∨ (idx, 3, a, b) ∈ pl) && Nat.blt a 1000 && (match nps[a]? with
      | some q => decide (sw = [((q.1 : Int), q.2)])
      | none => false)) || (decide ((idx, 13, a, b) ∈ pl) && decide (sw = (if a = 1001 ∨ a = 1002 then [(2, 1)] else if a = 1003 ∨ a = 1004 then [(2, 4)] else [(5, 0)])))) = true := hk
    rw [Bool.or_eq_true] at hk1
    split at h
    · rename_i n rk sw'
      split at h
      · rename_i vs rest htk
        rw [cond_eq_ite] at h
        split at h
        · rename_i hcat
          rcases hk1 with hk1 | hk1
          · rw [Bool.and_eq_true, Bool.and_eq_true] at hk1
            obtain ⟨⟨k1, k2⟩, k3⟩ := hk1
            have k1 := of_decide_eq_true k1
            have k2 : a < 1000 := Nat.le_of_ble_eq_true k2
            cases hq : nps[a]? with
            | none => rw [hq] at k3; cases k3
            | some q =>
              rw [hq] at k3
              have k3 := of_decide_eq_true k3
              injection k3 with k4 k5
              injection k4 with k6 k7
              exact zi_inv C hnp HG1 HG3 hroom Hm Hnx I hl hst k2 hq k7 (Or.inl ⟨rfl, by omega, k1.imp (hpl _) (hpl _)⟩) htk hcat hd h
          · rw [Bool.and_eq_true] at hk1
            have k1 := hpl _ (of_decide_eq_true hk1.1)
            have k2 := of_decide_eq_true hk1.2
            obtain ⟨x, σ', h1, h2⟩ := zi_bind_cases h
            obtain ⟨av, e1, e2, e3⟩ := zi_take_spec htk
            rw [List.append_nil] at e1
            subst e1
            have hvs : ∀ v ∈ vs, zi_in v := fun v hv => hst v (by rw [e2]; exact List.mem_append_left _ (List.mem_reverse.mpr hv))
            have hrs : ∀ v ∈ rest, zi_in v := fun v hv => hst v (by rw [e2]; exact List.mem_append_right _ hv)
            have hcat' : ((rest.map zi_v).map fun v => v.category).sum ≤ 8 := by rw [zi_cats_eq]; exact Nat.le_of_ble_eq_true hcat
            have hlen : c.maxLocals = L.size := C.2.2.1.trans hl.2.1.symm
            have hcR : cells ≤ R.cells ∧ slots ≤ R.slots := by
              have g1 := HG3 _ _ _ _ _ h1
              have g2 := Hm _ _ _ _ h2
              obtain ⟨-, -, i3, i4, i5, i6⟩ := id I
              have g11 : σ.2.2.2.1 ≤ σ'.2.2.2.1 := g1.1
              have g12 : σ.2.2.2.2 ≤ σ'.2.2.2.2 := g1.2
              have g21 : σ'.2.2.2.1 ≤ res.2.2.2.2.1 := g2.1
              have g22 : σ'.2.2.2.2 ≤ res.2.2.2.2.2 := g2.2
              exact ⟨by omega, by omega⟩
            rcases k1 with ⟨ha, w1, w2, w3, w4⟩ | ⟨ha, w1, w2, w3, w4⟩ | ⟨ha, w1, w2, w3, w4⟩ | ⟨ha, w1, w2, w3, w4⟩ | ⟨ha, w1, w2, w3, w4⟩
            · change a = 1001 at ha
              subst ha
              obtain ⟨q1, q2, q3⟩ := HG2 _ _ _ _ _ (by decide) h1
              obtain ⟨u, v, rfl, rfl, rfl⟩ := zi_nat1 q1
              rw [if_pos (Or.inl rfl)] at k2
              cases k2
              have iu : zi_ir u := hvs _ List.mem_cons_self
              have iv : zi_ir v := hvs _ (List.mem_cons_of_mem _ List.mem_cons_self)
              have hres : zi_ir (if u < v then v else u) := by split <;> assumption
              rw [e2]
              refine va_mmax (rest := rest.map zi_v) (x := Int32.ofInt u) (y := Int32.ofInt v) hx hb hlen hown (hts _ w1) (hts _ w2) (hts _ w3) (hts _ w4) q2 (by omega) hcR.1 hcR.2 hd ?_
              rw [zi_max iu iv]
              exact go _ (.inl _ :: rest) h2 (cons hres hrs)
            · change a = 1002 at ha
              subst ha
              obtain ⟨q1, q2, q3⟩ := HG2 _ _ _ _ _ (by decide) h1
              obtain ⟨u, v, rfl, rfl, rfl⟩ := zi_nat2 q1
              rw [if_pos (Or.inr rfl)] at k2
              cases k2
              have iu : zi_ir u := hvs _ List.mem_cons_self
              have iv : zi_ir v := hvs _ (List.mem_cons_of_mem _ List.mem_cons_self)
              have hres : zi_ir (if v < u then v else u) := by split <;> assumption
              rw [e2]
              refine va_mmin (rest := rest.map zi_v) (x := Int32.ofInt u) (y := Int32.ofInt v) hx hb hlen hown (hts _ w1) (hts _ w2) (hts _ w3) (hts _ w4) q2 (by omega) hcR.1 hcR.2 hd ?_
              rw [zi_min iu iv]
              exact go _ (.inl _ :: rest) h2 (cons hres hrs)
            · change a = 1003 at ha
              subst ha
              obtain ⟨q1, q2, q3⟩ := HG2 _ _ _ _ _ (by decide) h1
              obtain ⟨u, v, rfl, rfl, rfl⟩ := zi_nat3 q1
              rw [if_neg (by omega), if_pos (Or.inl rfl)] at k2
              cases k2
              have iu : zi_in (.inr (.inl u)) := hvs _ List.mem_cons_self
              have iv : zi_in (.inr (.inl v)) := hvs _ (List.mem_cons_of_mem _ List.mem_cons_self)
              have hres : zi_in (.inr (.inl (if v < u then u else v))) := by split <;> assumption
              rw [e2]
              refine va_mmax_long (rest := rest.map zi_v) (x := Int64.ofInt u) (y := Int64.ofInt v) hx hb hlen hown (hts _ w1) (hts _ w2) (hts _ w3) (hts _ w4) q2 (by omega) hcR.1 hcR.2 hd ?_
              rw [zi_lmax iu iv]
              exact go _ (.inr (.inl _) :: rest) h2 (cons hres hrs)
            · change a = 1004 at ha
              subst ha
              obtain ⟨q1, q2, q3⟩ := HG2 _ _ _ _ _ (by decide) h1
              obtain ⟨u, v, rfl, rfl, rfl⟩ := zi_nat4 q1
              rw [if_neg (by omega), if_pos (Or.inr rfl)] at k2
              cases k2
              have iu : zi_in (.inr (.inl u)) := hvs _ List.mem_cons_self
              have iv : zi_in (.inr (.inl v)) := hvs _ (List.mem_cons_of_mem _ List.mem_cons_self)
              have hres : zi_in (.inr (.inl (if v < u then v else u))) := by split <;> assumption
              rw [e2]
              refine va_mmin_long (rest := rest.map zi_v) (x := Int64.ofInt u) (y := Int64.ofInt v) hx hb hlen hown (hts _ w1) (hts _ w2) (hts _ w3) (hts _ w4) q2 (by omega) hcR.1 hcR.2 hd ?_
              rw [zi_lmin iu iv]
              exact go _ (.inr (.inl _) :: rest) h2 (cons hres hrs)
            · change a = 1005 at ha
              subst ha
              obtain ⟨q1, q2, q3⟩ := HG2 _ _ _ _ _ (by decide) h1
              obtain ⟨x1, s1, y1, d1, n1, rfl, ⟨⟨c1, c2⟩, c3, c4, c5, c6, c7⟩, rfl, rfl⟩ := zi_nat5 q1
              rw [if_neg (by omega), if_neg (by omega)] at k2
              cases k2
              have j1 : zi_ir s1 := hvs (.inl s1) (by simp)
              have j2 : zi_ir d1 := hvs (.inl d1) (by simp)
              have j3 : zi_ir n1 := hvs (.inl n1) (by simp)
              rw [e2, List.map_append]
              exact zi_copy C I.1 I.2.1 hl.2.1 (recs := recs) (b := b) (hpl _ (of_decide_eq_true hk1.1)) (Nat.le_of_ble_eq_true hcat) q2 q3 c1 c2 c3 c4 c5 c6 c7 j1 j2 j3 hd (fun H1 locs1 g1 g2 => mem (σ.1, zi_cpy σ.2.1 x1 y1 s1 d1 n1, σ.2.2) H1 locs1 _ rest g1 g2 hrs rfl h2)
        · cases h
      · cases h
    · cases h
  · -- invokevirtual
    rename_i idx
    have hk1 : (decide ((idx, 4, a, b) ∈ pl ∨ (idx, 5, a, b) ∈ pl) && Nat.blt a 1000 && (match nps[a]? with
      | some q => decide (sw = [((q.1 : Int) + 1, q.2)])
      | none => false)) = true := hk
    rw [Bool.and_eq_true, Bool.and_eq_true] at hk1
    obtain ⟨⟨k1, k2⟩, k3⟩ := hk1
    have k1 := of_decide_eq_true k1
    have k2 : a < 1000 := Nat.le_of_ble_eq_true k2
    split at h
    · rename_i n rk sw'
      split at h
      · rename_i y vs rest htk
        rw [cond_eq_ite] at h
        split at h
        · rename_i hcat
          split at h
          · rename_i hyb
            cases hq : nps[a]? with
            | none => rw [hq] at k3; cases k3
            | some q =>
              rw [hq] at k3
              have k3 := of_decide_eq_true k3
              injection k3 with k4 k5
              injection k4 with k6 k7
              exact zi_inv C hnp HG1 HG3 hroom Hm Hnx I hl hst k2 hq k7 (Or.inr ⟨by omega, ⟨y, vs, rfl, hyb⟩, Or.inl ⟨rfl, k1.imp (hpl _) (hpl _)⟩⟩) htk hcat hd h
          · cases h
        · cases h
      · cases h
    · cases h
  · -- invokespecial
    rename_i idx
    have hk1 : ((decide ((idx, 6, a, b) ∈ pl ∨ (idx, 7, a, b) ∈ pl) && Nat.blt a 1000 && (match nps[a]? with
      | some q => decide (sw = [((q.1 : Int) + 1, q.2)])
      | none => false)) || (decide ((idx, 12, a, b) ∈ pl) && decide (a = 1000 ∧ sw = [(1, 0)]))) = true := hk
    rw [Bool.or_eq_true] at hk1
    split at h
    · rename_i n rk sw'
      split at h
      · rename_i y vs rest htk
        rw [cond_eq_ite] at h
        split at h
        · rename_i hcat
          split at h
          · rename_i hyb
            rcases hk1 with hk1 | hk1
            · rw [Bool.and_eq_true, Bool.and_eq_true] at hk1
              obtain ⟨⟨k1, k2⟩, k3⟩ := hk1
              have k1 := of_decide_eq_true k1
              have k2 : a < 1000 := Nat.le_of_ble_eq_true k2
              cases hq : nps[a]? with
              | none => rw [hq] at k3; cases k3
              | some q =>
                rw [hq] at k3
                have k3 := of_decide_eq_true k3
                injection k3 with k4 k5
                injection k4 with k6 k7
                exact zi_inv C hnp HG1 HG3 hroom Hm Hnx I hl hst k2 hq k7 (Or.inr ⟨by omega, ⟨y, vs, rfl, hyb⟩, Or.inr ⟨rfl, k1.imp (hpl _) (hpl _)⟩⟩) htk hcat hd h
            · rw [Bool.and_eq_true] at hk1
              obtain ⟨b1, b2, w1, w2, w3⟩ := hpl _ (of_decide_eq_true hk1.1)
              obtain ⟨k2, k3⟩ := of_decide_eq_true hk1.2
              subst k2
              cases k3
              obtain ⟨x, σ', h1, h2⟩ := zi_bind_cases h
              obtain ⟨q1, q2, q3⟩ := HG2 _ _ _ _ _ (by decide) h1
              obtain ⟨⟨z, hz⟩, rfl, rfl⟩ := zi_nat0 q1
              cases hz
              obtain ⟨av, e1, e2, e3⟩ := zi_take_spec htk
              rw [List.append_nil] at e1
              subst e1
              have hrs : ∀ v ∈ rest, zi_in v := fun v hv => hst v (by rw [e2]; exact List.mem_append_right _ hv)
              have hcat' : ((rest.map zi_v).map fun v => v.category).sum ≤ 8 := by rw [zi_cats_eq]; exact Nat.le_of_ble_eq_true hcat
              change 0 ≤ b at b1
              change b < 11 at b2
              have hky : (σ'.1 y).1 ≠ 99 := by omega
              obtain ⟨ad, ex, er⟩ := zi_kind_pos I.1 rfl hky
              have hst2 : st.map zi_v = .ref ad :: rest.map zi_v := by
                rw [e2]
                show zi_v (.inr (.inr y)) :: rest.map zi_v = _
                rw [zi_vr er]
              rw [hst2]
              exact W.objInit hx hb hown (hts _ w1) (hts _ w2) (hts _ w3) rfl (by show L.size = _; rw [hl.2.1]; exact C.2.2.1.symm) rfl hd q2 (by show 2 * 0 + _ + 12 ≤ _; omega) (go _ rest h2 hrs)
          · cases h
        · cases h
      · cases h
    · cases h
  · -- ireturn
    split at h
    · rename_i x
      split at h
      · rename_i hrk
        cases h
        exact Hend _ hd (Or.inl ⟨rfl, rfl, Or.inl hrk⟩) rfl
      · rename_i hrk
        split at h
        · rename_i hx01
          cases h
          exact Hend _ hd (Or.inl ⟨rfl, rfl, Or.inr ⟨hrk, hx01⟩⟩) rfl
        · cases h
      · cases h
    · cases h
  · -- areturn
    split at h
    · rename_i x
      split at h
      · rename_i hrk
        cases h
        exact Hend _ hd (Or.inr (Or.inl ⟨rfl, rfl, hrk⟩)) rfl
      · cases h
    · cases h
  · -- return
    split at h
    · split at h
      · rename_i hrk
        cases h
        exact Hend _ hd (Or.inr (Or.inr ⟨rfl, rfl, rfl, hrk⟩)) rfl
      · cases h
    · cases h
  · cases h
end ZX
