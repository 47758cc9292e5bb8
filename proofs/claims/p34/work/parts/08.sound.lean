/-! what the small machine does, the machine does -/
def zi_len (i : Instr) (b : Int) : Nat := match i with
  | .tableswitch _ _ _ _ => b.toNat
  | .lookupswitch _ _ => b.toNat
  | .bipush _ => 2
  | .ldc _ => 2
  | .iload _ => 2
  | .lload _ => 2
  | .aload _ => 2
  | .istore _ => 2
  | .lstore _ => 2
  | .astore _ => 2
  | .newarray _ => 2
  | .sipush _ => 3
  | .ldc_w _ => 3
  | .ldc2_w _ => 3
  | .iinc _ _ => 3
  | .ifCond _ _ => 3
  | .if_icmp _ _ => 3
  | .ifnull _ => 3
  | .ifnonnull _ => 3
  | .goto _ => 3
  | .getfield _ => 3
  | .putfield _ => 3
  | .new _ => 3
  | .anewarray _ => 3
  | .invokestatic _ => 3
  | .invokevirtual _ => 3
  | .invokespecial _ => 3
  | _ => 1
def zi_ck (nps : List (Nat × Nat)) (own : String) (pl : List (Nat × Nat × Nat × Int)) (ini : Bool) (cl : zC) : Bool :=
  let pc := cl.1; let a := cl.2.2.1; let b := cl.2.2.2.1; let sw := cl.2.2.2.2
  match cl.2.1 with
  | .iconst n => decide ((Int32.ofInt n).toInt = b)
  | .bipush n => decide ((Int8.ofInt n).toInt32.toInt = b)
  | .sipush n => decide ((Int16.ofInt n).toInt32.toInt = b)
  | .ldc_w i => decide ((i, 10, 0, b) ∈ pl)
  | .ldc i => decide ((i, 10, 0, b) ∈ pl)
  | .lconst n => decide ((Int64.ofNat (n : Nat)).toInt = b)
  | .ldc2_w i => decide ((i, 11, 0, b) ∈ pl)
  | .iload_n k => Nat.beq (k : Nat) a
  | .lload_n k => Nat.beq (k : Nat) a
  | .aload_n k => Nat.beq (k : Nat) a
  | .istore_n k => Nat.beq (k : Nat) a
  | .lstore_n k => Nat.beq (k : Nat) a
  | .astore_n k => Nat.beq (k : Nat) a
  | .iload k => Nat.beq k a
  | .lload k => Nat.beq k a
  | .aload k => Nat.beq k a
  | .istore k => Nat.beq k a
  | .lstore k => Nat.beq k a
  | .astore k => Nat.beq k a
  | .iinc i n => Nat.beq i a && decide (n = b ∧ -32768 ≤ n ∧ n ≤ 32767)
  | .goto off => decide ((pc : Int) + off = (a : Int))
  | .ifCond _ off => decide ((pc : Int) + off = (a : Int))
  | .if_icmp _ off => decide ((pc : Int) + off = (a : Int))
  | .ifnull off => decide ((pc : Int) + off = (a : Int))
  | .ifnonnull off => decide ((pc : Int) + off = (a : Int))
  | .tableswitch d lo hi offs => decide ((pc : Int) + d = (a : Int) ∧ lo ≤ hi ∧ (offs.size : Int) = hi - lo + 1 ∧ sw = (List.range offs.size).map (fun i : Nat => (lo + (i : Int), ((pc : Int) + offs.getD i 0).toNat)) ∧ ∀ o ∈ offs.toList, 0 ≤ (pc : Int) + o)
  | .lookupswitch d ps => decide ((pc : Int) + d = (a : Int) ∧ sw = ps.toList.map (fun q => (q.1, ((pc : Int) + q.2).toNat)) ∧ (∀ q ∈ ps.toList, 0 ≤ (pc : Int) + q.2)) && (ps.toList.zip (ps.toList.drop 1)).all (fun (x, next) => decide (x.1 < next.1))
  | .getfield i => decide ((i, 0, a, b) ∈ pl ∨ (i, 1, a, b) ∈ pl)
  | .putfield i => decide ((i, 0, a, b) ∈ pl ∨ (i, 1, a, b) ∈ pl) && (match vwCl[a]? with
    | some q => !(q.2.1 b.toNat).2.2.2 || (ini && decide (q.1 = own) && decide ((i, 0, a, b) ∈ pl))
    | none => false)
  | .iaload => Nat.beq a 12 || Nat.beq a 18
  | .aaload => Nat.ble 14 a && Nat.ble a 17
  | .aastore => Nat.ble 14 a && Nat.ble a 17 && decide (0 ≤ b) && (match vwCl[b.toNat]? with
    | some q => decide (zi_ak a = some (.object q.1))
    | none => false)
  | .arraylength => Nat.ble 12 a && Nat.ble a 18
  | .newarray t => decide (t = .int ∧ a = 12 ∨ t = .long ∧ a = 19)
  | .anewarray i => decide ((i, 9, a, 0) ∈ pl)
  | .new i => decide ((i, 8, a, b) ∈ pl)
  | .invokestatic i => (decide ((i, 2, a, b) ∈ pl ∨ (i, 3, a, b) ∈ pl) && Nat.blt a 1000 && (match nps[a]? with
      | some q => decide (sw = [((q.1 : Int), q.2)])
      | none => false)) || (decide ((i, 13, a, b) ∈ pl) && decide (sw = (if a = 1001 ∨ a = 1002 then [(2, 1)] else if a = 1003 ∨ a = 1004 then [(2, 4)] else [(5, 0)])))
  | .invokevirtual i => decide ((i, 4, a, b) ∈ pl ∨ (i, 5, a, b) ∈ pl) && Nat.blt a 1000 && (match nps[a]? with
      | some q => decide (sw = [((q.1 : Int) + 1, q.2)])
      | none => false)
  | .invokespecial i => (decide ((i, 6, a, b) ∈ pl ∨ (i, 7, a, b) ∈ pl) && Nat.blt a 1000 && (match nps[a]? with
      | some q => decide (sw = [((q.1 : Int) + 1, q.2)])
      | none => false)) || (decide ((i, 12, a, b) ∈ pl) && decide (a = 1000 ∧ sw = [(1, 0)]))
  | _ => true
theorem zi_find_mem : ∀ {code : List zC} {pc : Nat} {x : Instr × Nat × Int × List (Int × Nat)}, zi_find code pc = some x → (pc, x) ∈ code
  | [], _, _, h => by cases h
  | cl :: r, pc, x, h => by
    unfold zi_find at h
    cases hb : Nat.beq cl.1 pc with
    | true =>
      rw [hb] at h
      have h1 := Nat.eq_of_beq_eq_true hb
      cases h
      subst h1
      exact List.mem_cons_self
    | false =>
      rw [hb] at h
      exact List.mem_cons_of_mem _ (zi_find_mem h)
theorem zi_sw_cases {K : Nat → zR} {res : Int × zM} : ∀ {sw : List (Int × Nat)} {d : Nat} {x : Int}, zi_sw sw d x K = some res → (∃ q ∈ sw, x = q.1 ∧ K q.2 = some res) ∨ ((∀ q ∈ sw, x ≠ q.1) ∧ K d = some res)
  | [], d, x, h => Or.inr ⟨fun q hq => absurd hq List.not_mem_nil, h⟩
  | q :: r, d, x, h => by
    unfold zi_sw at h
    by_cases hx : x = q.1
    · rw [if_pos hx] at h
      exact Or.inl ⟨q, List.mem_cons_self, hx, h⟩
    · rw [if_neg hx] at h
      rcases zi_sw_cases h with ⟨z, h1, h2⟩ | ⟨h1, h2⟩
      · exact Or.inl ⟨z, List.mem_cons_of_mem _ h1, h2⟩
      · exact Or.inr ⟨fun z hz => by
          rcases List.mem_cons.mp hz with h3 | h3
          · rw [h3]; exact hx
          · exact h1 z h3, h2⟩
def zi_lq (σ : zM) (res : Int × zM) : Prop := σ.2.2.2.1 ≤ res.2.2.2.2.1 ∧ σ.2.2.2.2 ≤ res.2.2.2.2.2
theorem zi_lq_new {σ : zM} {res : Int × zM} {k : Nat} {n : Int} {sl : Nat} (h : zi_lq (zi_new σ k n sl) res) : zi_lq σ res ∧ σ.2.2.2.1 + 1 ≤ res.2.2.2.2.1 ∧ σ.2.2.2.2 + sl ≤ res.2.2.2.2.2 := by
  obtain ⟨h1, h2⟩ := h
  change σ.2.2.2.1 + 1 ≤ _ at h1
  change σ.2.2.2.2 + sl ≤ _ at h2
  exact ⟨⟨by omega, by omega⟩, h1, h2⟩
theorem zi_lq_refl (x : Int) (σ : zM) : zi_lq σ (x, σ) := ⟨Int.le_refl _, Nat.le_refl _⟩
theorem zi_if_cases {c : Jvm.ClassFile.Cond} {x y : Int} {A B : zR} {res : Int × zM} (h : zi_if c x y A B = some res) : A = some res ∨ B = some res := by
  unfold zi_if at h
  split at h <;> split at h <;> first | exact Or.inl h | exact Or.inr h
theorem zi_bind_cases {A : zR} {f : Int × zM → zR} {res : Int × zM} (h : A.bind f = some res) : ∃ x σ', A = some (x, σ') ∧ f (x, σ') = some res := by
  cases A with
  | none => cases h
  | some q => exact ⟨q.1, q.2, rfl, h⟩
set_option maxHeartbeats 4000000 in
theorem zi_ex_le {t : zT} {G : Nat → List zV → zM → zR} {nx : Nat → zL → List zV → zM → zR} {pc : Nat} {ls : zL} {st : List zV} {σ : zM} {res : Int × zM}
    (HGm : ∀ a vs σ x σ', G a vs σ = some (x, σ') → zi_lq σ (x, σ')) (Hm : ∀ pc' ls' st' σ', nx pc' ls' st' σ' = some res → zi_lq σ' res) (h : zi_ex t G nx pc ls st σ = some res) : zi_lq σ res := by
  have hcall : ∀ a vs rk r, ((G a vs σ).bind fun q => nx (pc + 3) ls (zi_push rk q.1 r) q.2) = some res → zi_lq σ res := by
    intro a vs rk r h
    obtain ⟨x, σ', h1, h2⟩ := zi_bind_cases h
    have h3 := HGm _ _ _ _ _ h1
    have h4 := Hm _ _ _ _ h2
    exact ⟨Int.le_trans h3.1 h4.1, Nat.le_trans h3.2 h4.2⟩
  unfold zi_ex at h
  split at h
  · cases h
  · split at h
    all_goals try (exact Hm _ _ _ _ h)
    all_goals try (cases h; done)
    all_goals (repeat' (split at h))
    all_goals try (cases h; done)
    all_goals try (exact Hm _ _ _ _ h)
    all_goals try (exact (zi_lq_new (Hm _ _ _ _ h)).1)
    all_goals try (rcases zi_if_cases h with h | h <;> exact Hm _ _ _ _ h)
    all_goals try (rcases zi_sw_cases h with ⟨q, -, -, h⟩ | ⟨-, h⟩ <;> exact Hm _ _ _ _ h)
    all_goals try (cases h; exact zi_lq_refl _ _)
    all_goals try (have h5 := Hm _ _ _ _ h; exact h5)
    all_goals (simp only [cond_eq_ite] at h)
    all_goals (repeat' (split at h))
    all_goals try (cases h; done)
    all_goals try (exact Hm _ _ _ _ h)
    all_goals exact hcall _ _ _ _ h
def zi_I (s : State) (D : va_G) (base : Nat) (σ0 σ : zM) (H : Heap) (locs : List Loc) (cells slots : Nat) : Prop := zi_W s D base σ H ∧ (∀ q ∈ locs, base ≤ q.base) ∧ cells = (σ.2.2.2.1 - σ0.2.2.2.1).toNat ∧ slots = σ.2.2.2.2 - σ0.2.2.2.2 ∧ σ0.2.2.2.1 ≤ σ.2.2.2.1 ∧ σ0.2.2.2.2 ≤ σ.2.2.2.2
def zi_endok (rk : Nat) (ins : Instr) (st : List zV) (x : Int) : Prop := (ins = .ireturn ∧ st = [.inl x] ∧ (rk = 1 ∨ (rk = 2 ∧ (x = 0 ∨ x = 1)))) ∨ (ins = .areturn ∧ st = [.inr (.inr x)] ∧ rk = 3) ∨ (ins = .return_ ∧ st = [] ∧ x = 0 ∧ rk = 0)
theorem zi_Ist {s : State} {D : va_G} {base : Nat} {σ0 σ : zM} {H H1 : Heap} {locs locs1 : List Loc} {cells slots : Nat} {σ1 : zM} (h : zi_I s D base σ0 σ H locs cells slots) (he : σ1.2.2.2 = σ.2.2.2) (hW : zi_W s D base σ1 H1) (hlo : ∀ q ∈ locs1, base ≤ q.base) : zi_I s D base σ0 σ1 H1 locs1 cells slots := ⟨hW, hlo, by rw [he]; exact h.2.2.1, by rw [he]; exact h.2.2.2.1, by rw [he]; exact h.2.2.2.2.1, by rw [he]; exact h.2.2.2.2.2⟩
theorem zi_sum {t0 t1 t2 t3 : Int} {n0 n1 n2 n3 c k X Y : Nat} (hc : c = (t1 - t0).toNat) (hk : k = n1 - n0) (h0 : t0 ≤ t1) (g0 : n0 ≤ n1) (h1 : t1 ≤ t2) (g1 : n1 ≤ n2) (h2 : t2 ≤ t3) (g2 : n2 ≤ n3) (hX : (t3 - t0).toNat ≤ X) (hY : n3 - n0 ≤ Y) : (c + (t2 - t1).toNat ≤ X ∧ k + (n2 - n1) ≤ Y) ∧ c + (t2 - t1).toNat = (t2 - t0).toNat ∧ k + (n2 - n1) = n2 - n0 ∧ t0 ≤ t2 ∧ n0 ≤ n2 := by omega
section ZS
variable {p : Program} {l : Launch} {e : Env} {R : Room} {s : State} {m : MethodId} {args : Array Value} {below : List Frame} {meth : Method} {c : Code} {H : Heap} {locs : List Loc} {cells slots : Nat} {Q : State → Prop} {D : va_G} {cc : ByteArray} {nL : Nat} {own : String} {ini : Bool} {base : Nat} {σ0 σ : zM} {recs : List zi_rec} {pc : Nat} {L : Array Slot}
def zi_G1 (l : Launch) (R : Room) (recs : List zi_rec) (G : Nat → List zV → zM → zR) : Prop := ∀ a vs σ x σ', a < 1000 → G a vs σ = some (x, σ') → (∀ v ∈ vs, zi_in v) → ∃ (r : zi_rec) (d : Nat), recs[a]? = some r ∧ zi_rok r ∧ d + 1 ≤ R.frames ∧ 38 * (d + 1) ≤ R.locals ∧ zi_Met l r d vs σ x σ'
def zi_G2 (R : Room) (G : Nat → List zV → zM → zR) : Prop := ∀ a vs σ x σ', 1000 ≤ a → G a vs σ = some (x, σ') → zi_nat a vs σ = some (x, σ') ∧ 1 ≤ R.frames ∧ 38 ≤ R.locals
def zi_G3 (G : Nat → List zV → zM → zR) : Prop := ∀ a vs σ x σ', G a vs σ = some (x, σ') → zi_lq σ (x, σ')
set_option maxHeartbeats 4000000 in
theorem zi_inv {G : Nat → List zV → zM → zR} {nx : Nat → zL → List zV → zM → zR} {ls : zL} {st rest vs : List zV} {res : Int × zM} {ins : Instr} {idx a n rk : Nat} {b : Int} {nps : List (Nat × Nat)} {q : Nat × Nat}
    (C : zi_cx p s m args meth c D cc nL own ini) (hnp : ∀ (a : Nat) (r : zi_rec) (q : Nat × Nat), recs[a]? = some r → nps[a]? = some q → q = (r.2.2.2.1, r.2.2.2.2.2.2.2)) (HG1 : zi_G1 l R recs G) (HG3 : zi_G3 G) (hroom : (res.2.2.2.2.1 - σ0.2.2.2.1).toNat ≤ R.cells ∧ res.2.2.2.2.2 - σ0.2.2.2.2 ≤ R.slots)
    (Hm : ∀ pc' ls' st' σ', nx pc' ls' st' σ' = some res → zi_lq σ' res)
    (Hnx : ∀ pc' ls' st' σ' L' H' locs' cells' slots', zi_lr ls' nL L' → (∀ v ∈ st', zi_in v) → zi_I s D base σ0 σ' H' locs' cells' slots' → nx pc' ls' st' σ' = some res → W p l e R s m args below meth c H' locs' cells' slots' Q (F0 m pc' L' (st'.map zi_v)))
    (I : zi_I s D base σ0 σ H locs cells slots) (hl : zi_lr ls nL L) (hst : ∀ v ∈ st, zi_in v) (ha : a < 1000) (hq : nps[a]? = some q) (hrk : rk = q.2)
    (hp : (ins = .invokestatic idx ∧ n = q.1 ∧ (zi_pm recs own (idx, 2, a, b) ∨ zi_pm recs own (idx, 3, a, b))) ∨ (n = q.1 + 1 ∧ (∃ y vs', vs = .inr (.inr y) :: vs' ∧ ((σ.1 y).1 : Int) = b) ∧ ((ins = .invokevirtual idx ∧ (zi_pm recs own (idx, 4, a, b) ∨ zi_pm recs own (idx, 5, a, b))) ∨ (ins = .invokespecial idx ∧ (zi_pm recs own (idx, 6, a, b) ∨ zi_pm recs own (idx, 7, a, b))))))
    (htk : zi_take n [] st = some (vs, rest)) (hcat : Nat.ble (zi_cats rest) 8 = true) (hd : decode cc pc = .ok (ins, 3))
    (h : ((G a vs σ).bind fun q => nx (pc + 3) ls (zi_push rk q.1 rest) q.2) = some res) : W p l e R s m args below meth c H locs cells slots Q (F0 m pc L (st.map zi_v)) := by
  obtain ⟨x, σ', h1, h2⟩ := zi_bind_cases h
  obtain ⟨av, e1, e2, e3⟩ := zi_take_spec htk
  rw [List.append_nil] at e1
  have hvs : ∀ v ∈ vs, zi_in v := fun v hv => hst v (by rw [e2]; exact List.mem_append_left _ (List.mem_reverse.mpr (by rw [← e1]; exact hv)))
  have hrs : ∀ v ∈ rest, zi_in v := fun v hv => hst v (by rw [e2]; exact List.mem_append_right _ hv)
  obtain ⟨r, d, hr, hok, hf, hlc, hM⟩ := HG1 _ _ _ _ _ ha h1 hvs
  have hqr := hnp a r q hr hq
  subst hqr
  have g1 := HG3 _ _ _ _ _ h1
  have g2 := Hm _ _ _ _ h2
  obtain ⟨hW, hlo, hc, hs, hb1, hb2⟩ := I
  change σ.2.2.2.1 ≤ σ'.2.2.2.1 ∧ σ.2.2.2.2 ≤ σ'.2.2.2.2 at g1
  change σ'.2.2.2.1 ≤ res.2.2.2.2.1 ∧ σ'.2.2.2.2 ≤ res.2.2.2.2.2 at g2
  have hsum := zi_sum hc hs hb1 hb2 g1.1 g1.2 g2.1 g2.2 hroom.1 hroom.2
  refine zi_invoke C hW hlo hl.2.1 hr hok hp htk (Nat.le_of_ble_eq_true hcat) hf hlc hM hsum.1 hd fun H1 locs1 k1 k2 k3 => ?_
  rw [hrk] at h2
  exact Hnx _ _ _ _ _ _ _ _ _ hl (zi_push_in k2 hrs) ⟨k1, k3, hsum.2⟩ h2
end ZS
