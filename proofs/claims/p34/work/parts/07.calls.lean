/-! calls -/
def zi_rv (rk : Nat) (r : Int) : Option Value := match rk with
  | 0 => none
  | t => some (zi_v (zi_mkv t r))
def zi_Pc (D : va_G) (base : Nat) (vs : List zV) (σ : zM) : Array Value → State → Prop := fun A U => A = (vs.map zi_v).toArray ∧ va_K D vwCl [] U ∧ zi_nw U ∧ zi_W U D base σ U.heap
def zi_Qc (D : va_G) (base rk : Nat) (r : Int) (σ' : zM) : Array Value → State → Outcome → State → Prop := fun _ _ o t => o = .returned (zi_rv rk r) ∧ zi_in (zi_mkv rk r) ∧ va_K D vwCl [] t ∧ zi_W t D base σ' t.heap
def zi_rm (d mc ms : Nat) : Room := { frames := d, cells := mc, slots := ms, locals := 38 * d }
def zi_ws (r : zi_rec) : List Jvm.Cond := Jvm.Cond.code r.1 r.2.1 r.2.2.2.2.2.2.1 r.2.2.1 :: zi_tb
def zi_rok (r : zi_rec) : Prop := Jvm.Cond.code r.1 r.2.1 r.2.2.2.2.2.2.1 r.2.2.1 ∈ zi_tb ∧ Jvm.Cond.initialized r.1.cls ∈ zi_tb ∧ r.1.cls ≠ "java/lang/invoke/MethodHandle" ∧ r.1.cls ≠ "java/lang/invoke/VarHandle" ∧ (parseMethodDescriptor r.1.desc).map (fun d => d.parameters.length) = some r.2.2.2.1 ∧ r.2.2.2.2.2.2.1 ≤ 19
theorem zi_good {w : Jvm.Cond} (h : w ∈ zi_tb) : (w.onTables && w.keeps) = true ∨ ∃ ty, w = .arrayClass ty := good_of_word (List.mem_filter.mp h).2
theorem zi_gin {r : zi_rec} (h : zi_rok r) : GoodIn zi_tb (zi_ws r) := by
  intro w hw
  rcases List.mem_cons.mp hw with h1 | h1
  · rw [h1]; exact ⟨h.1, zi_good h.1⟩
  · exact ⟨h1, zi_good h1⟩
def zi_Met (l : Launch) (r : zi_rec) (d : Nat) (vs : List zV) (σ : zM) (x : Int) (σ' : zM) : Prop := ∀ (D : va_G) (base : Nat), Met l r.1 (zi_ws r) (zi_rm d (σ'.2.2.2.1 - σ.2.2.2.1).toNat (σ'.2.2.2.2 - σ.2.2.2.2)) (zi_Pc D base vs σ) (zi_Qc D base r.2.2.2.2.2.2.2 x σ') (σ'.2.2.2.1 - σ.2.2.2.1).toNat (σ'.2.2.2.2 - σ.2.2.2.2) (fun q => base ≤ q)
theorem zi_isN_on {w : Jvm.Cond} (h : zi_isN w = true) : w.onTables = true ∨ ∃ C, w = .arrayOver (.object C) := by
  match w, h with
  | .fieldLinkNest _ _ _ _ _ _, _ => exact Or.inl rfl
  | .methodLinkNest _ _ _ _, _ => exact Or.inl rfl
  | .arrayOver (.object C), _ => exact Or.inr ⟨C, rfl⟩
theorem zi_nw.same {s U : State} (hv : s.vm = U.vm) (h : zi_nw s) : zi_nw U := by
  intro w hw hn
  rcases zi_isN_on hn with h1 | ⟨C, rfl⟩
  · exact va_Nw.same h1 hv (h w hw hn)
  · exact va_AO.moved (by rw [hv]; exact Vm.Alike.refl _) (h _ hw hn)
theorem zi_blind {D : va_G} {base : Nat} {vs : List zV} {σ : zM} : FrameBlind (zi_Pc D base vs σ) := fun a U g mk h => ⟨h.1, va_K.moved (u := U) (U := U.calling g mk a) (Vm.Alike.refl U.vm) h.2.1, zi_nw.same (s := U) (U := U.calling g mk a) rfl h.2.2.1, zi_W.moved (u := U) (U := U.calling g mk a) (Vm.Alike.refl U.vm) h.2.2.2⟩
theorem zi_cats_eq : ∀ r : List zV, ((r.map zi_v).map fun v => v.category).sum = zi_cats r
  | [] => rfl
  | .inl x :: r => by
    have := zi_cats_eq r
    simp only [List.map_cons, List.sum_cons, zi_cats, this]
    rfl
  | .inr (.inl x) :: r => by
    have := zi_cats_eq r
    simp only [List.map_cons, List.sum_cons, zi_cats, this]
    rfl
  | .inr (.inr x) :: r => by
    have := zi_cats_eq r
    simp only [List.map_cons, List.sum_cons, zi_cats, this]
    have h : (zi_v (.inr (.inr x))).category = 1 := zi_v_cat1 rfl
    rw [h]
theorem zi_push_eq (rk : Nat) (x : Int) (r : List zV) : (zi_rv rk x).toList ++ r.map zi_v = (zi_push rk x r).map zi_v := by
  unfold zi_rv zi_push
  split <;> simp only [Option.toList, List.nil_append, List.cons_append] <;> (split <;> first | rfl | simp_all [zi_mkv])
theorem zi_push_in {rk : Nat} {x : Int} {r : List zV} (hx : zi_in (zi_mkv rk x)) (hr : ∀ v ∈ r, zi_in v) : ∀ v ∈ zi_push rk x r, zi_in v := by
  unfold zi_push
  intro v hv
  split at hv
  · exact hr v hv
  all_goals
    rcases List.mem_cons.mp hv with h | h
    · rw [h]
      first | exact hx | (unfold zi_mkv at hx; split at hx <;> first | exact hx | (exfalso; simp_all))
    · exact hr v h
theorem zi_take_spec : ∀ {n : Nat} {acc st vs r : List zV}, zi_take n acc st = some (vs, r) → ∃ a, vs = a ++ acc ∧ st = a.reverse ++ r ∧ a.length = n
  | 0, acc, st, vs, r, h => by cases h; exact ⟨[], rfl, rfl, rfl⟩
  | n + 1, acc, [], vs, r, h => by cases h
  | n + 1, acc, v :: st, vs, r, h => by
    obtain ⟨a, h1, h2, h3⟩ := zi_take_spec (n := n) (acc := v :: acc) (st := st) h
    refine ⟨a ++ [v], by rw [h1]; simp, by rw [h2]; simp, by simp [h3]⟩
section ZC
variable {p : Program} {l : Launch} {e : Env} {R : Room} {s : State} {m : MethodId} {args : Array Value} {below : List Frame} {meth : Method} {c : Code} {H : Heap} {locs : List Loc} {cells slots : Nat} {Q : State → Prop} {D : va_G} {cc : ByteArray} {nL : Nat} {own : String} {ini : Bool} {base : Nat} {σ σ' : zM} {recs : List zi_rec} {pc : Nat} {L : Array Slot}
theorem zi_ran {mc ms rk : Nat} {x : Int} {restV st0 : List Value} {A : Array Value} (hr : va_Run p l e R s m args below meth c H locs cells slots mc ms (F0 m pc L st0) restV (zi_Qc D base rk x σ' A) (fun q => base ≤ q)) (hlo : ∀ q ∈ locs, base ≤ q.base)
    (kk : ∀ (H1 : Heap) (locs1 : List Loc), zi_W s D base σ' H1 → zi_in (zi_mkv rk x) → (∀ q ∈ locs1, base ≤ q.base) → W p l e R s m args below meth c H1 locs1 (cells + mc) (slots + ms) Q (F0 m (pc + 3) L ((zi_rv rk x).toList ++ restV))) : W p l e R s m args below meth c H locs cells slots Q (F0 m pc L st0) := by
  intro T hT X
  obtain ⟨v, st₀, t, T', LL, h0, X', hL, e1, e2, ⟨hv, hin, -, hW⟩, st⟩ := hr T hT X
  cases hv
  have hal : s.vm.Alike t.vm := by rw [← e2]; exact X'.warmed.alike
  obtain ⟨t2, a1, b1⟩ := kk T'.heap (locs ++ LL) (by rw [e1]; exact zi_W.moved hal.symm hW) hin (fun q hq => by
      rcases List.mem_append.mp hq with h | h
      · exact hlo q h
      · exact hL q h) T' rfl X'
  exact ⟨t2, st t2 a1, b1⟩
theorem zi_callB {r : zi_rec} {d mc ms idx : Nat} (hok : zi_rok r) (hts : ∀ w ∈ zi_tb, w.before args s = true) (hl : (Jvm.Cond.methodLink own idx r.1).before args s = true) (hf : d + 1 ≤ R.frames) (hlc : 38 * (d + 1) ≤ R.locals) :
    CallB R s args own idx r.1 r.2.1 r.2.2.2.2.2.2.1 r.2.2.1 (zi_ws r) (zi_rm d mc ms) mc ms r.2.2.2.1 := by
  obtain ⟨h1, h2, h3, h4, h5, h6⟩ := hok
  exact callB_of (Ts := zi_tb) (ws' := zi_tb) r.2.2.2.1 hts (zi_gin ⟨h1, h2, h3, h4, h5, h6⟩) rfl rfl rfl (hts _ h2) hl ⟨h3, h4, h5⟩ ⟨hf, by show 8 + (_ + 11) + 38 * d ≤ _; omega⟩
theorem zi_callN {r : zi_rec} {d mc ms idx : Nat} {host : String} (hok : zi_rok r) (hts : ∀ w ∈ zi_tb, w.before args s = true) (hl : (Jvm.Cond.methodLinkNest own idx r.1 host).before #[] s = true) (hf : d + 1 ≤ R.frames) (hlc : 38 * (d + 1) ≤ R.locals) :
    va_CN R s args own idx r.1 host r.2.1 r.2.2.2.2.2.2.1 r.2.2.1 (zi_ws r) (zi_rm d mc ms) mc ms r.2.2.2.1 := by
  obtain ⟨h1, h2, h3, h4, h5, h6⟩ := hok
  exact va_cnB (Ts := zi_tb) (ws' := zi_tb) r.2.2.2.1 hts (zi_gin ⟨h1, h2, h3, h4, h5, h6⟩) rfl rfl rfl hl (hts _ h2) ⟨h3, h4, h5⟩ ⟨hf, by show 8 + (_ + 11) + 38 * d ≤ _; omega⟩
/-- a call of a method -/
theorem zi_invoke (C : zi_cx p s m args meth c D cc nL own ini) (hW : zi_W s D base σ H) (hlo : ∀ q ∈ locs, base ≤ q.base) (hLs : L.size = nL) {ins : Instr} {idx a n : Nat} {b : Int} {r : zi_rec} {vs st rest : List zV} {x : Int} {d : Nat}
    (hr : recs[a]? = some r) (hok : zi_rok r) (hp : (ins = .invokestatic idx ∧ n = r.2.2.2.1 ∧ (zi_pm recs own (idx, 2, a, b) ∨ zi_pm recs own (idx, 3, a, b))) ∨ (n = r.2.2.2.1 + 1 ∧ (∃ y vs', vs = .inr (.inr y) :: vs' ∧ ((σ.1 y).1 : Int) = b) ∧ ((ins = .invokevirtual idx ∧ (zi_pm recs own (idx, 4, a, b) ∨ zi_pm recs own (idx, 5, a, b))) ∨ (ins = .invokespecial idx ∧ (zi_pm recs own (idx, 6, a, b) ∨ zi_pm recs own (idx, 7, a, b))))))
    (hst : zi_take n [] st = some (vs, rest)) (hcat : zi_cats rest ≤ 8) (hf : d + 1 ≤ R.frames) (hlc : 38 * (d + 1) ≤ R.locals) (hM : zi_Met l r d vs σ x σ')
    (hcs : cells + (σ'.2.2.2.1 - σ.2.2.2.1).toNat ≤ R.cells ∧ slots + (σ'.2.2.2.2 - σ.2.2.2.2) ≤ R.slots) (hd : decode cc pc = .ok (ins, 3))
    (kk : ∀ (H1 : Heap) (locs1 : List Loc), zi_W s D base σ' H1 → zi_in (zi_mkv r.2.2.2.2.2.2.2 x) → (∀ q ∈ locs1, base ≤ q.base) → W p l e R s m args below meth c H1 locs1 (cells + (σ'.2.2.2.1 - σ.2.2.2.1).toNat) (slots + (σ'.2.2.2.2 - σ.2.2.2.2)) Q (F0 m (pc + 3) L ((zi_push r.2.2.2.2.2.2.2 x rest).map zi_v))) : W p l e R s m args below meth c H locs cells slots Q (F0 m pc L (st.map zi_v)) := by
  obtain ⟨hx, hb, hml, hown, hts, hK, hnw, hini⟩ := C
  have S0 : CallFix p m c cc nL s args zi_tb own := ⟨hx, hb, hml, hown, hts⟩
  obtain ⟨av, e1, e2, e3⟩ := zi_take_spec hst
  rw [List.append_nil] at e1
  subst e1
  have hcat' : (((rest.map zi_v)).map fun v => v.category).sum ≤ 8 := by rw [zi_cats_eq]; exact hcat
  have hpre : ∀ U : State, U.heap = H → s.WarmedH U.vm → zi_Pc D base vs σ (vs.map zi_v).toArray U := fun U hU hWm => ⟨rfl, va_K.moved hWm.alike hK, zi_nw.moved hWm hnw, by rw [hU]; exact zi_W.moved hWm.alike hW⟩
  have kk' : ∀ (H1 : Heap) (locs1 : List Loc), zi_W s D base σ' H1 → zi_in (zi_mkv r.2.2.2.2.2.2.2 x) → (∀ q ∈ locs1, base ≤ q.base) → W p l e R s m args below meth c H1 locs1 (cells + (σ'.2.2.2.1 - σ.2.2.2.1).toNat) (slots + (σ'.2.2.2.2 - σ.2.2.2.2)) Q (F0 m (pc + 3) L ((zi_rv r.2.2.2.2.2.2.2 x).toList ++ rest.map zi_v)) := by
    intro H1 locs1 g1 g2 g3
    rw [zi_push_eq]
    exact kk H1 locs1 g1 g2 g3
  have hstk : st.map zi_v = (vs.map zi_v).reverse ++ rest.map zi_v := by rw [e2]; simp
  rw [hstk]
  rcases hp with ⟨rfl, hn, hp⟩ | ⟨hn, ⟨y, vs', rfl, hyb⟩, hp⟩
  · have hlen : (vs.map zi_v).length = r.2.2.2.1 := by rw [List.length_map, e3, hn]
    rcases hp with ⟨r', hr', hw1, hw2⟩ | ⟨r', host, hr', hw1, hw2⟩
    · have : r' = r := Option.some.inj (hr'.symm.trans hr)
      subst this
      exact zi_ran (va_runS S0 (hM D base) ⟨zi_callB hok hts (hts _ hw1) hf hlc, hts _ hw2⟩ ⟨zi_blind, hpre⟩ rfl hlen hLs rfl (lv_room hcat') hd hcs) hlo kk'
    · have : r' = r := Option.some.inj (hr'.symm.trans hr)
      subst this
      exact zi_ran (va_runSN S0 (hM D base) ⟨zi_callN hok hts (hnw _ hw1 rfl) hf hlc, hts _ hw2, trivial⟩ ⟨zi_blind, hpre⟩ rfl hlen hLs rfl (lv_room hcat') hd hcs) hlo kk'
  · have hlen : (vs'.map zi_v).length = r.2.2.2.1 := by
      rw [List.length_map]
      rw [List.length_cons] at e3
      omega
    have hy : ∀ q : vw_C, vwCl[b.toNat]? = some q → ∃ ad : Nat, zi_v (.inr (.inr y)) = .ref ad ∧ ∃ cellB : Cell, H[ad]? = some cellB ∧ cellB.vm.isStatics = false ∧ s.vm.findClass q.1 = some cellB.cls := by
      intro q hq
      have hk : (σ.1 y).1 = b.toNat := by omega
      obtain ⟨ad, ex, er, -, ⟨cell, q1, q2, q3, -⟩, -⟩ := zi_obj hW hk hq
      exact ⟨ad, zi_vr er, cell, q1, by rw [q3]; rfl, by rw [q2]; exact (hK.1 _ q hq).2.1⟩
    have hst2 : ∀ ad : Nat, zi_v (.inr (.inr y)) = .ref ad → ((.inr (.inr y) :: vs').map zi_v).reverse ++ rest.map zi_v = (vs'.map zi_v).reverse ++ .ref ad :: rest.map zi_v := by
      intro ad h
      rw [List.map_cons, h]
      simp
    have hpre2 : ∀ ad : Nat, zi_v (.inr (.inr y)) = .ref ad → ∀ U : State, U.heap = H → s.WarmedH U.vm → zi_Pc D base (.inr (.inr y) :: vs') σ (Value.ref ad :: vs'.map zi_v).toArray U := by
      intro ad h U hU hWm
      have := hpre U hU hWm
      rw [List.map_cons, h] at this
      exact this
    rcases hp with ⟨rfl, hp⟩ | ⟨rfl, hp⟩
    · rcases hp with ⟨r', q, hr', hq, -, hcl, hw1, hw2, hw3⟩ | ⟨r', q, host, hr', hq, -, hcl, hw1, hw2, hw3⟩
      · have : r' = r := Option.some.inj (hr'.symm.trans hr)
        subst this
        obtain ⟨ad, h1, h2⟩ := hy q hq
        rw [hst2 ad h1]
        exact zi_ran (va_runV (C := q.1) S0 (hM D base) ⟨zi_callB hok hts (hts _ hw1) hf hlc, hts _ hw2, hts _ hw3⟩ ⟨zi_blind, h2, hpre2 ad h1⟩ rfl hlen hLs rfl (lv_room hcat') hd hcs) hlo kk'
      · have : r' = r := Option.some.inj (hr'.symm.trans hr)
        subst this
        obtain ⟨ad, h1, h2⟩ := hy q hq
        rw [hst2 ad h1]
        exact zi_ran (va_runVN (C := q.1) S0 (hM D base) ⟨zi_callN hok hts (hnw _ hw1 rfl) hf hlc, hts _ hw2, hts _ hw3⟩ ⟨zi_blind, h2, hpre2 ad h1⟩ rfl hlen hLs rfl (lv_room hcat') hd hcs) hlo kk'
    · have h12 : 0 ≤ b ∧ b < 11 → ∃ q, vwCl[b.toNat]? = some q := by
        intro h
        have : b.toNat < vwCl.length := by
          show b.toNat < 11
          omega
        exact ⟨_, List.getElem?_eq_getElem this⟩
      rcases hp with ⟨r', hr', hb1, hb2, hnm, hrt, hw1, hw2⟩ | ⟨r', host, hr', hb1, hb2, hnm, hrt, hw1, hw2⟩
      · have : r' = r := Option.some.inj (hr'.symm.trans hr)
        subst this
        obtain ⟨q, hq⟩ := h12 ⟨hb1, hb2⟩
        obtain ⟨ad, h1, h2⟩ := hy q hq
        rw [hst2 ad h1]
        have hB := zi_callB (R := R) (s := s) (args := args) (own := own) (idx := idx) (mc := (σ'.2.2.2.1 - σ.2.2.2.1).toNat) (ms := σ'.2.2.2.2 - σ.2.2.2.2) hok hts (hts _ hw1) hf hlc
        rw [hrt] at hB
        exact zi_ran (va_runI S0 (hM D base) ⟨hB, hnm, hts _ hw2⟩ ⟨zi_blind, hpre2 ad h1⟩ rfl hlen hLs rfl (lv_room hcat') hd hcs) hlo kk'
      · have : r' = r := Option.some.inj (hr'.symm.trans hr)
        subst this
        obtain ⟨q, hq⟩ := h12 ⟨hb1, hb2⟩
        obtain ⟨ad, h1, h2⟩ := hy q hq
        rw [hst2 ad h1]
        have hB := zi_callN (R := R) (s := s) (args := args) (own := own) (idx := idx) (mc := (σ'.2.2.2.1 - σ.2.2.2.1).toNat) (ms := σ'.2.2.2.2 - σ.2.2.2.2) hok hts (hnw _ hw1 rfl) hf hlc
        rw [hrt] at hB
        exact zi_ran (va_runIN S0 (hM D base) ⟨hB, hnm, hts _ hw2⟩ ⟨zi_blind, hpre2 ad h1⟩ rfl hlen hLs rfl (lv_room hcat') hd hcs) hlo kk'
/-- arraycopy -/
theorem zi_copy (C : zi_cx p s m args meth c D cc nL own ini) (hW : zi_W s D base σ H) (hlo : ∀ q ∈ locs, base ≤ q.base) (hLs : L.size = nL) {idx : Nat} {b : Int} (hp : zi_pm recs own (idx, 13, 1005, b)) {x y sp dp n : Int} {rest : List zV} (hcat : zi_cats rest ≤ 8) (hf : 1 ≤ R.frames) (hlc : 38 ≤ R.locals)
    (hkx : (σ.1 x).1 = 12) (hky : (σ.1 y).1 = 12) (h0 : 0 ≤ sp) (h1 : 0 ≤ dp) (h2 : 0 ≤ n) (h3 : sp + n ≤ (σ.1 x).2) (h4 : dp + n ≤ (σ.1 y).2) (hsp : zi_ir sp) (hdp : zi_ir dp) (hn : zi_ir n) (hd : decode cc pc = .ok (.invokestatic idx, 3))
    (kk : ∀ (H1 : Heap) (locs1 : List Loc), zi_W s D base (σ.1, zi_cpy σ.2.1 x y sp dp n, σ.2.2) H1 → (∀ q ∈ locs1, base ≤ q.base) → W p l e R s m args below meth c H1 locs1 cells slots Q (F0 m (pc + 3) L (rest.map zi_v))) :
    W p l e R s m args below meth c H locs cells slots Q (F0 m pc L ([.inl n, .inl dp, .inr (.inr y), .inl sp, .inr (.inr x)].map zi_v ++ rest.map zi_v)) := by
  obtain ⟨hx, hb, hml, hown, hts, hK, hnw, hini⟩ := C
  obtain ⟨hw1, hw2, hw3, hw4⟩ : Jvm.Cond.methodLink own idx arraycopyName ∈ zi_tb ∧ Jvm.Cond.native arraycopyName ∈ zi_tb ∧ Jvm.Cond.static arraycopyName ∈ zi_tb ∧ Jvm.Cond.initialized "java/lang/System" ∈ zi_tb := by
    rcases hp with ⟨h, -⟩ | ⟨h, -⟩ | ⟨h, -⟩ | ⟨h, -⟩ | ⟨-, h⟩
    · cases h
    · cases h
    · cases h
    · cases h
    · exact h
  obtain ⟨ax, ex, er, hbx, -, -, ⟨cx, a1, a2, a3⟩, a4⟩ := zi_arr hW hkx (ty := .int) rfl
  obtain ⟨ay, ey, fr, hby, -, -, ⟨cy, b1, b2, b3⟩, b4⟩ := zi_arr hW hky (ty := .int) rfl
  have tn : ∀ z : Int, zi_ir z → 0 ≤ z → (Int32.ofInt z).toNatClampNeg = z.toNat := by
    intro z hz h
    show (Int32.ofInt z).toInt.toNat = _
    rw [zi_oi' hz]
  have ng : ∀ z : Int, zi_ir z → 0 ≤ z → ¬ Int32.ofInt z < 0 := by
    intro z hz h
    rw [zi_z, zi_lt hz zi_ir0]; omega
  show W p l e R s m args below meth c H locs cells slots Q (F0 m pc L (.int (Int32.ofInt n) :: .int (Int32.ofInt dp) :: zi_v (.inr (.inr y)) :: .int (Int32.ofInt sp) :: zi_v (.inr (.inr x)) :: rest.map zi_v))
  rw [zi_vr er, zi_vr fr]
  have hcat' : (((rest.map zi_v)).map fun v => v.category).sum ≤ 8 := by rw [zi_cats_eq]; exact hcat
  have hnf : nativeFrameWords "java/lang/System" "arraycopy" 5 = 7 := by decide
  have hnz : ∀ z : Int, zi_ir z → 0 ≤ z → (Int32.ofInt z).toInt = z := fun z hz _ => zi_oi' hz
  have hlt := (Array.getElem?_eq_some_iff.mp b3).1
  intro T hT X
  obtain ⟨-, k0, hk0, cm0, hkk0⟩ := a1 (σ.1 x).2.toNat (fun j => zi_v (zi_mkv (zi_et 12) (σ.2.1 x j)))
  obtain ⟨-, k1, hk1, cm1, hkk1⟩ := b1 (σ.1 y).2.toNat (fun j => zi_v (zi_mkv (zi_et 12) (σ.2.1 y j)))
  obtain ⟨vm', X', step⟩ := X.arraycopy hx hown (hts _ hw1) (hts _ hw2) (hts _ hw3) (hts _ hw4) (src := ax) (dst := ay) (cs := arrV cx (σ.1 x).2.toNat (fun j => zi_v (zi_mkv (zi_et 12) (σ.2.1 x j)))) (cd := arrV cy (σ.1 y).2.toNat (fun j => zi_v (zi_mkv (zi_et 12) (σ.2.1 y j)))) (srcPos := Int32.ofInt sp) (destPos := Int32.ofInt dp) (n := Int32.ofInt n) (by rw [hT]; exact a3) (by rw [hT]; exact b3)
    (fun _ h => by cases h) (fun _ h => by cases h) (fun h => by cases h) (fun h => by cases h) hk0 hk1 hkk0 hkk1 (by simp [refKind]) (ng _ hsp h0) (ng _ hdp h1) (ng _ hn h2)
    (by rw [hnz _ hsp h0, hnz _ hn h2, arrV_size]; omega)
    (by rw [hnz _ hdp h1, hnz _ hn h2, arrV_size]; omega)
    (fun vm₁ _ i hi => by
      rw [tn _ hn h2] at hi
      have e : (arrV cx (σ.1 x).2.toNat (fun j => zi_v (zi_mkv (zi_et 12) (σ.2.1 x j)))).slots.getD ((Int32.ofInt sp).toNatClampNeg + i) .null = .int (Int32.ofInt (σ.2.1 x ((Int32.ofInt sp).toNatClampNeg + i : Nat))) := by
        rw [Array.getD_eq_getD_getElem?, arrV_read _ _ (by rw [tn _ hsp h0]; omega)]
        rfl
      rw [e]
      exact ⟨rfl, trivial⟩)
    (g := F0 m pc L (.int (Int32.ofInt n) :: .int (Int32.ofInt dp) :: .ref ay :: .int (Int32.ofInt sp) :: .ref ax :: rest.map zi_v)) rfl (by rw [hml]; exact hLs) (rest := rest.map zi_v) rfl (by rw [hb]; exact hd) hf (by show 2 * 0 + _ + _ ≤ _; rw [hnf]; omega)
  have e1 : copied (arrV cx (σ.1 x).2.toNat (fun j => zi_v (zi_mkv (zi_et 12) (σ.2.1 x j)))) (arrV cy (σ.1 y).2.toNat (fun j => zi_v (zi_mkv (zi_et 12) (σ.2.1 y j)))) (Int32.ofInt sp) (Int32.ofInt dp) (Int32.ofInt n) = arrV cy (σ.1 y).2.toNat (fun j => zi_v (zi_mkv (zi_et 12) (zi_cpy σ.2.1 x y sp dp n y j))) := by
    refine (va_copied (fun z => .int z) cx cy (fun j => Int32.ofInt (σ.2.1 x j)) (fun j => Int32.ofInt (σ.2.1 y j)) (by rw [tn _ hsp h0, tn _ hn h2]; omega)).trans ?_
    show arrV _ _ _ = arrV _ _ _
    congr 1
    funext j
    show Value.int (va_cpy _ _ _ _ _ j) = Value.int (Int32.ofInt (zi_cpy σ.2.1 x y sp dp n y j))
    unfold va_cpy zi_cpy
    rw [tn _ hsp h0, tn _ hn h2, tn _ hdp h1]
    by_cases hj : dp.toNat ≤ j ∧ j < dp.toNat + n.toNat
    · rw [if_pos hj, if_pos ⟨rfl, by omega, by omega⟩]
      have e5 : ((sp.toNat + (j - dp.toNat) : Nat) : Int) = sp + ((j : Int) - dp) := by omega
      rw [← e5]
    · rw [if_neg hj, if_neg (fun q => hj ⟨by omega, by omega⟩)]
  rw [e1] at X' step
  have hheap : ((T.setVm vm').setCell ay (arrV cy (σ.1 y).2.toNat (fun j => zi_v (zi_mkv (zi_et 12) (zi_cpy σ.2.1 x y sp dp n y j))))).heap = H.setIfInBounds ay (arrV cy (σ.1 y).2.toNat (fun j => zi_v (zi_mkv (zi_et 12) (zi_cpy σ.2.1 x y sp dp n y j)))) := by rw [← hT]; rfl
  obtain ⟨t, g1, g2⟩ := kk _ _ (zi_W_arr (ty := .int) (σ' := (σ.1, zi_cpy σ.2.1 x y sp dp n, σ.2.2)) (H1 := H.setIfInBounds ay (arrV cy (σ.1 y).2.toNat (fun j => zi_v (zi_mkv (zi_et 12) (zi_cpy σ.2.1 x y sp dp n y j))))) hW ey (by rw [hky]; rfl) ⟨rfl, rfl, fun z j hz => ⟨by show zi_cpy σ.2.1 x y sp dp n z j = _; unfold zi_cpy; rw [if_neg (fun q => hz q.1)], rfl⟩⟩ (by
      intro j hj
      rw [hky]
      show zi_ir (zi_cpy σ.2.1 x y sp dp n y j)
      unfold zi_cpy
      by_cases hc : y = y ∧ dp ≤ j ∧ (j : Int) < dp + n
      · rw [if_pos hc]
        have := a4 (sp + (j - dp)).toNat (by omega)
        rw [show (((sp + (j - dp)).toNat : Nat) : Int) = sp + (j - dp) by omega] at this
        exact this
      · rw [if_neg hc]
        exact b4 j hj) (by
      intro cB hB
      rw [hky] at hB ⊢
      have hcc : arrV cy (σ.1 y).2.toNat (fun j => zi_v (zi_mkv (zi_et 12) (σ.2.1 y j))) = arrV cB (σ.1 y).2.toNat (fun j => zi_v (zi_mkv (zi_et 12) (σ.2.1 y j))) := Option.some.inj (b3.symm.trans hB)
      have hcB : cy = cB := congrArg Cell.cls hcc
      rw [← hcB]
      rw [Array.getElem?_setIfInBounds, if_pos rfl, if_pos hlt]
      rfl) (by simp) (fun b hb => by simp [Array.getElem?_setIfInBounds, Ne.symm hb])) (fun q hq => by
      rcases List.mem_append.mp hq with h | h
      · exact hlo q h
      · obtain ⟨z, -, hz⟩ := List.mem_map.mp h
        rw [← hz]
        exact hby) _ hheap X'
  exact ⟨t, step t g1, g2⟩
end ZC
