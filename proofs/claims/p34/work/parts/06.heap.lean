/-! instructions on the heap, out of the memory's picture -/
abbrev zi_rec : Type := MethodName × ByteArray × Option FieldType × Nat × zT
def zi_nt (c : Jvm.Cond) : Prop := c ∈ zi_tb
/-- what the words say of a place of a class's pool: (place, tag, a, b) -/
def zi_pm (recs : List zi_rec) (own : String) (e : Nat × Nat × Nat × Int) : Prop := match e.2.1 with
  | 0 => ∃ (q : vw_C) (k : Nat), vwCl[e.2.2.1]? = some q ∧ e.2.2.2 = (k : Int) ∧ k < q.2.2 ∧ Jvm.Cond.fieldLink own e.1 (q.2.1 k).1 (q.2.1 k).2.1 (q.2.1 k).2.2.1 ∈ zi_tb
  | 1 => ∃ (q : vw_C) (k : Nat) (host : String), vwCl[e.2.2.1]? = some q ∧ e.2.2.2 = (k : Int) ∧ k < q.2.2 ∧ Jvm.Cond.fieldLinkNest own e.1 (q.2.1 k).1 (q.2.1 k).2.1 (q.2.1 k).2.2.1 host ∈ lw_tbl
  | 2 => ∃ r : zi_rec, recs[e.2.2.1]? = some r ∧ Jvm.Cond.methodLink own e.1 r.1 ∈ zi_tb ∧ Jvm.Cond.static r.1 ∈ zi_tb
  | 3 => ∃ (r : zi_rec) (host : String), recs[e.2.2.1]? = some r ∧ Jvm.Cond.methodLinkNest own e.1 r.1 host ∈ lw_tbl ∧ Jvm.Cond.static r.1 ∈ zi_tb
  | 4 => ∃ (r : zi_rec) (q : vw_C), recs[e.2.2.1]? = some r ∧ vwCl[e.2.2.2.toNat]? = some q ∧ 0 ≤ e.2.2.2 ∧ r.1.cls = q.1 ∧ Jvm.Cond.methodLink own e.1 r.1 ∈ zi_tb ∧ Jvm.Cond.instanceMethod r.1 ∈ zi_tb ∧ Jvm.Cond.selects q.1 r.1 r.1 ∈ zi_tb
  | 5 => ∃ (r : zi_rec) (q : vw_C) (host : String), recs[e.2.2.1]? = some r ∧ vwCl[e.2.2.2.toNat]? = some q ∧ 0 ≤ e.2.2.2 ∧ r.1.cls = q.1 ∧ Jvm.Cond.methodLinkNest own e.1 r.1 host ∈ lw_tbl ∧ Jvm.Cond.instanceMethod r.1 ∈ zi_tb ∧ Jvm.Cond.selects q.1 r.1 r.1 ∈ zi_tb
  | 6 => ∃ r : zi_rec, recs[e.2.2.1]? = some r ∧ 0 ≤ e.2.2.2 ∧ e.2.2.2 < 11 ∧ r.1.name = "<init>" ∧ r.2.2.1 = none ∧ Jvm.Cond.methodLink own e.1 r.1 ∈ zi_tb ∧ Jvm.Cond.instanceMethod r.1 ∈ zi_tb
  | 7 => ∃ (r : zi_rec) (host : String), recs[e.2.2.1]? = some r ∧ 0 ≤ e.2.2.2 ∧ e.2.2.2 < 11 ∧ r.1.name = "<init>" ∧ r.2.2.1 = none ∧ Jvm.Cond.methodLinkNest own e.1 r.1 host ∈ lw_tbl ∧ Jvm.Cond.instanceMethod r.1 ∈ zi_tb
  | 8 => ∃ q : vw_C, vwCl[e.2.2.1]? = some q ∧ e.2.2.2 = (q.2.2 : Int) ∧ Jvm.Cond.classLink own e.1 q.1 ∈ zi_tb ∧ Jvm.Cond.instantiable q.1 q.2.2 ∈ zi_tb ∧ Jvm.Cond.initialized q.1 ∈ zi_tb
  | 9 => ∃ C : String, zi_ak e.2.2.1 = some (.object C) ∧ Jvm.Cond.classLink own e.1 C ∈ zi_tb ∧ Jvm.Cond.arrayOver (.object C) ∈ lw_tbl
  | 10 => Jvm.Cond.constant own e.1 (Int32.ofInt e.2.2.2) ∈ zi_tb ∧ zi_ir e.2.2.2
  | 11 => Jvm.Cond.constantLong own e.1 (Int64.ofInt e.2.2.2) ∈ zi_tb ∧ zi_in (.inr (.inl e.2.2.2))
  | 12 => 0 ≤ e.2.2.2 ∧ e.2.2.2 < 11 ∧ Jvm.Cond.methodLink own e.1 objectInit ∈ zi_tb ∧ Jvm.Cond.instanceMethod objectInit ∈ zi_tb ∧ Jvm.Cond.code objectInit ⟨#[0xb1]⟩ 1 none ∈ zi_tb
  | 13 => (e.2.2.1 = 1001 ∧ Jvm.Cond.methodLink own e.1 Lib.Math.max.name ∈ zi_tb ∧ Jvm.Cond.static Lib.Math.max.name ∈ zi_tb ∧ Jvm.Cond.initialized "java/lang/Math" ∈ zi_tb ∧ Jvm.Cond.code Lib.Math.max.name Lib.Math.max.code 2 (some .int) ∈ zi_tb) ∨
    (e.2.2.1 = 1002 ∧ Jvm.Cond.methodLink own e.1 Lib.Math.min.name ∈ zi_tb ∧ Jvm.Cond.static Lib.Math.min.name ∈ zi_tb ∧ Jvm.Cond.initialized "java/lang/Math" ∈ zi_tb ∧ Jvm.Cond.code Lib.Math.min.name Lib.Math.min.code 2 (some .int) ∈ zi_tb) ∨
    (e.2.2.1 = 1003 ∧ Jvm.Cond.methodLink own e.1 Lib.MathLoose.max_long.x ∈ zi_tb ∧ Jvm.Cond.static Lib.MathLoose.max_long.x ∈ zi_tb ∧ Jvm.Cond.initialized "java/lang/Math" ∈ zi_tb ∧ Jvm.Cond.code Lib.MathLoose.max_long.x Lib.MathLoose.max_long.code 4 (some .long) ∈ zi_tb) ∨
    (e.2.2.1 = 1004 ∧ Jvm.Cond.methodLink own e.1 Lib.MathLoose.min_long.x ∈ zi_tb ∧ Jvm.Cond.static Lib.MathLoose.min_long.x ∈ zi_tb ∧ Jvm.Cond.initialized "java/lang/Math" ∈ zi_tb ∧ Jvm.Cond.code Lib.MathLoose.min_long.x Lib.MathLoose.min_long.code 4 (some .long) ∈ zi_tb) ∨
    (e.2.2.1 = 1005 ∧ Jvm.Cond.methodLink own e.1 arraycopyName ∈ zi_tb ∧ Jvm.Cond.native arraycopyName ∈ zi_tb ∧ Jvm.Cond.static arraycopyName ∈ zi_tb ∧ Jvm.Cond.initialized "java/lang/System" ∈ zi_tb)
  | _ => False
/-- words that are not told but kept: nest links, rows over a class -/
def zi_isN : Jvm.Cond → Bool
  | .fieldLinkNest _ _ _ _ _ _ => true
  | .methodLinkNest _ _ _ _ => true
  | .arrayOver (.object _) => true
  | _ => false
def zi_nw (s : State) : Prop := ∀ w ∈ lw_tbl, zi_isN w = true → w.before #[] s = true
theorem zi_nw.moved {s U : State} (hW : s.WarmedH U.vm) (h : zi_nw s) : zi_nw U := by
  intro w hw hn
  have h1 := h w hw hn
  match w, hn with
  | .fieldLinkNest _ _ _ _ _ _, _ => exact va_Nw.warmF hW h1
  | .methodLinkNest _ _ _ _, _ => exact va_Nw.warmM hW h1
  | .arrayOver (.object C), _ => exact va_AO.moved hW.alike h1
def zi_cx (p : Program) (s : State) (m : MethodId) (args : Array Value) (meth : Method) (c : Code) (D : va_G) (cc : ByteArray) (nL : Nat) (own : String) (ini : Bool) : Prop :=
  p.tables.exec = Jvm.exec ∧ c.code = cc ∧ c.maxLocals = nL ∧ s.vm.findClass own = some m.cls ∧ (∀ w ∈ zi_tb, w.before args s = true) ∧ va_K D vwCl [] s ∧ zi_nw s ∧ (ini = true → meth.name = "<init>")
theorem zi_obj {s : State} {D : va_G} {base : Nat} {σ : zM} {H : Heap} (h : zi_W s D base σ H) {x : Int} {k : Nat} (hk : (σ.1 x).1 = k) {q : vw_C} (hq : vwCl[k]? = some q) : ∃ a : Nat, x = (a : Int) + 1 ∧ zi_ro x = some a ∧ base ≤ a ∧ t_OB a (D.1 k) q.2.2 (D.2 k) H (fun i => zi_v (zi_mkv (zi_ft k i) (zi_rd σ (zi_ft k i) x i))) ∧ ∀ i, i < q.2.2 → zi_in (zi_mkv (zi_ft k i) (zi_rd σ (zi_ft k i) x i)) := by
  have h9 : k ≠ 99 := by
    rintro rfl
    simp [vwCl] at hq
  obtain ⟨a, hx, hr⟩ := zi_kind_pos h hk h9
  obtain ⟨h1, -, -⟩ := h.2.2.2 a
  rw [← hx] at h1
  subst hk
  obtain ⟨b1, b2, b3⟩ := h1 q hq
  exact ⟨a, hx, hr, b1, b2, b3⟩
section ZH
variable {p : Program} {l : Launch} {e : Env} {R : Room} {s : State} {m : MethodId} {args : Array Value} {below : List Frame} {meth : Method} {c : Code} {H : Heap} {locs : List Loc} {cells slots : Nat} {Q : State → Prop} {D : va_G} {cc : ByteArray} {nL : Nat} {own : String} {ini : Bool} {base : Nat} {σ : zM} {recs : List zi_rec} {pc : Nat} {L : Array Slot} {rest : List Value}
theorem zi_getf (C : zi_cx p s m args meth c D cc nL own ini) (hW : zi_W s D base σ H) {x : Int} {a : Nat} {b : Int} {idx : Nat} (hp : zi_pm recs own (idx, 0, a, b) ∨ zi_pm recs own (idx, 1, a, b)) (hk : (σ.1 x).1 = a) (hd : decode cc pc = .ok (.getfield idx, 3))
    (kk : zi_in (zi_mkv (zi_ft a b.toNat) (zi_rd σ (zi_ft a b.toNat) x b)) → W p l e R s m args below meth c H locs cells slots Q (F0 m (pc + 3) L (zi_v (zi_mkv (zi_ft a b.toNat) (zi_rd σ (zi_ft a b.toNat) x b)) :: rest))) : W p l e R s m args below meth c H locs cells slots Q (F0 m pc L (zi_v (.inr (.inr x)) :: rest)) := by
  obtain ⟨hx, hb, -, hown, hts, hK, hnw, -⟩ := C
  rcases hp with ⟨q, k, hq, rfl, hkN, hw⟩ | ⟨q, k, host, hq, rfl, hkN, hw⟩
  all_goals
    obtain ⟨ad, ex, er, -, ⟨cell, q1, q2, q3, q4⟩, hin⟩ := zi_obj hW hk hq
    rw [zi_vr er]
    obtain ⟨hS, hfc, kC, hkC, hkind⟩ := hK.1 a _ hq
    obtain ⟨cf, kf, fi, f, hi, hsl⟩ := hS k hkN
    have hst := (u_facts hfc hkC (u_lays hts (zi_cls hq).1 hkN) hi).1
    have hv : cell.slots[f.slot]? = some (zi_v (zi_mkv (zi_ft a k) (zi_rd σ (zi_ft a k) x k))) := by rw [hsl]; exact q4 k hkN
  · exact W.getf hx hb hown (hts _ hw) hi hst q1 (by rw [q3]; exact fun h => by cases h) hv rfl rfl hd (kk (hin k hkN))
  · exact va_Wgetf hx hb hown (va_Nw.use rfl (hnw _ hw rfl)) hi hst q1 (by rw [q3]; exact fun h => by cases h) hv rfl rfl hd (kk (hin k hkN))
theorem zi_fit {t : Nat} {ty : FieldType} (ht : zi_tk t ty) {v : Int} (h2 : t = 2 → v = 0 ∨ v = 1) : narrow ty (zi_v (zi_mkv t v)) = zi_v (zi_mkv t v) ∧ fits ty (zi_v (zi_mkv t v)) = true := by
  match t, ht with
  | 1, h => cases h; exact ⟨rfl, rfl⟩
  | 2, h =>
    cases h
    rcases h2 rfl with rfl | rfl <;> exact ⟨by decide, by decide⟩
  | 3, h =>
    show narrow ty (va_rf (zi_ro v)) = va_rf (zi_ro v) ∧ fits ty (va_rf (zi_ro v)) = true
    rcases h with ⟨C, rfl⟩ | ⟨t, rfl⟩ <;> cases zi_ro v <;> exact ⟨rfl, rfl⟩
theorem zi_putf (C : zi_cx p s m args meth c D cc nL own ini) (hW : zi_W s D base σ H) (hlo : ∀ q ∈ locs, base ≤ q.base) {x v : Int} {a : Nat} {b : Int} {idx : Nat} (hp : zi_pm recs own (idx, 0, a, b) ∨ zi_pm recs own (idx, 1, a, b)) (hf : ∀ q, vwCl[a]? = some q → (q.2.1 b.toNat).2.2.2 = false ∨ (ini = true ∧ q.1 = own ∧ zi_pm recs own (idx, 0, a, b))) (hk : (σ.1 x).1 = a) (h2 : zi_ft a b.toNat = 2 → v = 0 ∨ v = 1) (hv : zi_in (zi_mkv (zi_ft a b.toNat) v)) (hd : decode cc pc = .ok (.putfield idx, 3))
    (kk : ∀ (H1 : Heap) (locs1 : List Loc), zi_W s D base (zi_wt σ (zi_ft a b.toNat) x b v) H1 → (∀ q ∈ locs1, base ≤ q.base) → W p l e R s m args below meth c H1 locs1 cells slots Q (F0 m (pc + 3) L rest)) : W p l e R s m args below meth c H locs cells slots Q (F0 m pc L (zi_v (zi_mkv (zi_ft a b.toNat) v) :: zi_v (.inr (.inr x)) :: rest)) := by
  have C0 := C
  obtain ⟨hx, hb, -, hown, hts, hK, hnw, hini⟩ := C
  have key : ∀ (q : vw_C) (k : Nat), vwCl[a]? = some q → k < q.2.2 → (b = (k : Int)) → (q.2.1 k).2.2.2 = true → ∃ w, w = Jvm.Cond.fieldLink own idx (q.2.1 k).1 (q.2.1 k).2.1 (q.2.1 k).2.2.1 ∧ w ∈ zi_tb ∧ ini = true ∧ q.1 = own := by
    intro q k hq hkN hbk hfin
    subst hbk
    rcases hf q hq with h | ⟨h1, h9, q', k', hq', hk', -, hw⟩
    · exact absurd (hfin.symm.trans h) (by decide)
    · have e1 : q' = q := Option.some.inj (hq'.symm.trans hq)
      subst e1
      have e2 : k' = k := by
        change (k : Int) = (k' : Int) at hk'
        omega
      subst e2
      exact ⟨_, rfl, hw, h1, h9⟩
  rcases hp with ⟨q, k, hq, hbk, hkN, hw⟩ | ⟨q, k, host, hq, hbk, hkN, hw⟩
  all_goals
    change b = (k : Int) at hbk
    subst hbk
    obtain ⟨ad, ex, er, hbase, ⟨cell, q1, q2, q3, q4⟩, hin⟩ := zi_obj hW hk hq
    rw [zi_vr er]
    obtain ⟨hin1, ty, hty, hnm, htk, hdecl⟩ := zi_cls hq
    have hap := va_apart (own := own) hts hin1 ty hty hnm hK hq
    obtain ⟨hS, hfc, kC, hkC, hkind⟩ := hK.1 a _ hq
    obtain ⟨cf, kf, fi, f, hi, hsl⟩ := hS k hkN
    have hst := (u_facts hfc hkC (u_lays hts hin1 hkN) hi).1
    obtain ⟨hn, hfit⟩ := zi_fit (htk k hkN) h2
    have hlt : f.slot < cell.slots.size := by rw [hsl]; exact k2_hasslot (q4 k hkN)
    have hend : ∀ H' : Heap, H'[ad]? = some (cell.setSlot f.slot (zi_v (zi_mkv (zi_ft a k) v))) → H'.size = H.size → (∀ q, q ≠ ad → H'[q]? = H[q]?) → W p l e R s m args below meth c H' (locs ++ [⟨ad, f.slot⟩]) cells slots Q (F0 m (pc + 3) L rest) := by
      intro H' e1 e2 e3
      refine kk H' _ ?_ ?_
      · subst hk
        refine zi_W_obj hW ex hq hkN hv ⟨_, e1, q2, q3, ?_⟩ e2 e3
        rw [hsl]
        exact t_set q4 hap hkN _
      · intro z hz
        rcases List.mem_append.mp hz with h | h
        · exact hlo z h
        · rw [List.mem_singleton.mp h]; exact hbase
  · by_cases hfin : (q.2.1 k).2.2.2 = true
    · obtain ⟨w, rfl, hw2, h1, h2⟩ := key q k hq hkN rfl hfin
      have hlay := hts _ (hin1 _ (u_in_lay hkN))
      unfold u_lay at hlay
      rw [if_pos hfin] at hlay
      have hcf : m.cls = cf := by
        obtain ⟨_, _, c', _, _, _, -, -, hf', -, -, -, hown2, -⟩ := Cond.laysFinal_spec hlay
        have e1 : c' = cf := by have := hi.symm.trans hf'; simp at this; exact this.1.symm
        rw [hdecl k hkN, h2] at hown2
        rw [← e1]; exact Option.some.inj (hown.symm.trans hown2)
      have h6 := u_fits hfc hkC hkind (Or.inr hlay) hi (hty k hkN) hn hfit
      exact W.putFinK hx hb hown (hts _ hw) hi hst hcf (hini h1) (by rw [q2]; exact h6) q1 q3 hlt rfl rfl hd hend
    · have hlay := hts _ (hin1 _ (u_in_lay hkN))
      unfold u_lay at hlay
      rw [if_neg hfin] at hlay
      have h6 := u_store hfc hkC hkind hlay hi (hty k hkN) hn hfit
      exact W.putK hx hb (f := f) ⟨hown, hts _ hw, ⟨_, _, _, hi⟩, hst⟩ (by rw [q2]; exact h6) q1 q3 hlt rfl rfl hd hend
  · by_cases hfin : (q.2.1 k).2.2.2 = true
    · obtain ⟨w, rfl, hw2, h1, h2⟩ := key q k hq hkN rfl hfin
      have hlay := hts _ (hin1 _ (u_in_lay hkN))
      unfold u_lay at hlay
      rw [if_pos hfin] at hlay
      have hcf : m.cls = cf := by
        obtain ⟨_, _, c', _, _, _, -, -, hf', -, -, -, hown2, -⟩ := Cond.laysFinal_spec hlay
        have e1 : c' = cf := by have := hi.symm.trans hf'; simp at this; exact this.1.symm
        rw [hdecl k hkN, h2] at hown2
        rw [← e1]; exact Option.some.inj (hown.symm.trans hown2)
      have h6 := u_fits hfc hkC hkind (Or.inr hlay) hi (hty k hkN) hn hfit
      exact W.putFinK hx hb hown (hts _ hw2) hi hst hcf (hini h1) (by rw [q2]; exact h6) q1 q3 hlt rfl rfl hd hend
    · have hlay := hts _ (hin1 _ (u_in_lay hkN))
      unfold u_lay at hlay
      rw [if_neg hfin] at hlay
      have h6 := u_store hfc hkC hkind hlay hi (hty k hkN) hn hfit
      exact va_WputK hx hb (f := f) hown (va_Nw.use rfl (hnw _ hw rfl)) hi hst (by rw [q2]; exact h6) q1 q3 hlt rfl rfl hd hend
/-- a row of the memory -/
theorem zi_arr (hW : zi_W s D base σ H) {x : Int} {k : Nat} (hk : (σ.1 x).1 = k) {ty : FieldType} (ht : zi_ak k = some ty) : ∃ a : Nat, x = (a : Int) + 1 ∧ zi_ro x = some a ∧ base ≤ a ∧ zi_ir (σ.1 x).2 ∧ 0 ≤ (σ.1 x).2 ∧ (∃ cA, ArrOfT s cA ty ∧ va_RA s cA ty ∧ H[a]? = some (arrV cA (σ.1 x).2.toNat (fun j => zi_v (zi_mkv (zi_et k) (zi_rd σ (zi_et k) x j))))) ∧ ∀ j : Nat, j < (σ.1 x).2.toNat → zi_in (zi_mkv (zi_et k) (zi_rd σ (zi_et k) x j)) := by
  have h9 : k ≠ 99 := by
    rintro rfl
    simp [zi_ak] at ht
  obtain ⟨a, hx, hr⟩ := zi_kind_pos hW hk h9
  obtain ⟨-, h1, -⟩ := hW.2.2.2 a
  rw [← hx] at h1
  subst hk
  obtain ⟨b1, b2, b3, b4, b5⟩ := h1 ty ht
  exact ⟨a, hx, hr, b1, b2, b3, b4, b5⟩
theorem zi_scr (hW : zi_W s D base σ H) {x : Int} (hk : (σ.1 x).1 = 18) : ∃ a : Nat, x = (a : Int) + 1 ∧ zi_ro x = some a ∧ zi_ir (σ.1 x).2 ∧ 0 ≤ (σ.1 x).2 ∧ (∃ cell : Cell, H[a]? = some cell ∧ s.isArrayOf cell .int ∧ cell.vm ≠ .unknown ∧ cell.slots.size = (σ.1 x).2.toNat ∧ ∀ j : Nat, j < (σ.1 x).2.toNat → cell.slots[j]? = some (.int (Int32.ofInt (σ.2.1 x j)))) ∧ ∀ j : Nat, j < (σ.1 x).2.toNat → zi_ir (σ.2.1 x j) := by
  obtain ⟨a, hx, hr⟩ := zi_kind_pos hW hk (by decide)
  obtain ⟨-, -, h1⟩ := hW.2.2.2 a
  rw [← hx] at h1
  obtain ⟨b1, b2, b3, b4⟩ := h1 hk
  exact ⟨a, hx, hr, b1, b2, b3, b4⟩
theorem zi_iald (C : zi_cx p s m args meth c D cc nL own ini) (hW : zi_W s D base σ H) {x j : Int} (hk : (σ.1 x).1 = 12 ∨ (σ.1 x).1 = 18) (hj : zi_ir j) (h0 : 0 ≤ j) (hn : j < (σ.1 x).2) (hd : decode cc pc = .ok (.iaload, 1))
    (kk : zi_ir (σ.2.1 x j) → W p l e R s m args below meth c H locs cells slots Q (F0 m (pc + 1) L (.int (Int32.ofInt (σ.2.1 x j)) :: rest))) : W p l e R s m args below meth c H locs cells slots Q (F0 m pc L (.int (Int32.ofInt j) :: zi_v (.inr (.inr x)) :: rest)) := by
  obtain ⟨hx, hb, -, hown, hts, hK, hnw, -⟩ := C
  obtain ⟨hin, hjj⟩ := zi_idx hj h0 hn
  have hlt : (Int32.ofInt j).toNatClampNeg < (σ.1 x).2.toNat := by omega
  rcases hk with hk | hk
  · obtain ⟨a, ex, er, -, -, -, ⟨cA, h1, h2, h3⟩, h4⟩ := zi_arr hW hk (ty := .int) rfl
    rw [zi_vr er]
    have h5 := h4 _ hlt
    rw [hjj] at h5
    refine W.iald (v := .int (Int32.ofInt (σ.2.1 x j))) hx hb h3 (h1 _ _) (fun q => by cases q) (by rw [arrV_size]; exact hin) ?_ rfl rfl hd (kk h5)
    rw [arrV_read _ _ hlt, hjj]
    rfl
  · obtain ⟨a, ex, er, -, -, ⟨cell, h1, h2, h3, h5, h6⟩, h4⟩ := zi_scr hW hk
    rw [zi_vr er]
    have h7 := h4 _ hlt
    rw [hjj] at h7
    refine W.iald (v := .int (Int32.ofInt (σ.2.1 x j))) hx hb h1 h2 h3 (by rw [h5]; exact hin) ?_ rfl rfl hd (kk h7)
    rw [h6 _ hlt, hjj]
theorem zi_zald (C : zi_cx p s m args meth c D cc nL own ini) (hW : zi_W s D base σ H) {x j : Int} (hk : (σ.1 x).1 = 13) (hj : zi_ir j) (h0 : 0 ≤ j) (hn : j < (σ.1 x).2) (hd : decode cc pc = .ok (.baload, 1))
    (kk : zi_ir (σ.2.1 x j) → W p l e R s m args below meth c H locs cells slots Q (F0 m (pc + 1) L (.int (Int32.ofInt (σ.2.1 x j)) :: rest))) : W p l e R s m args below meth c H locs cells slots Q (F0 m pc L (.int (Int32.ofInt j) :: zi_v (.inr (.inr x)) :: rest)) := by
  obtain ⟨hx, hb, -, hown, hts, hK, hnw, -⟩ := C
  obtain ⟨hin, hjj⟩ := zi_idx hj h0 hn
  have hlt : (Int32.ofInt j).toNatClampNeg < (σ.1 x).2.toNat := by omega
  obtain ⟨a, ex, er, -, -, -, ⟨cA, h1, h2, h3⟩, h4⟩ := zi_arr hW hk (ty := .boolean) rfl
  rw [zi_vr er]
  have h5 := h4 _ hlt
  rw [hjj] at h5
  refine W.zald (v := .int (Int32.ofInt (σ.2.1 x j))) hx hb h3 (h1 _ _) (fun q => by cases q) (by rw [arrV_size]; exact hin) ?_ rfl rfl hd (kk h5)
  rw [arrV_read _ _ hlt, hjj]
  rfl
theorem zi_aald (C : zi_cx p s m args meth c D cc nL own ini) (hW : zi_W s D base σ H) {x j : Int} {k : Nat} (hk : (σ.1 x).1 = k) (hk2 : 14 ≤ k ∧ k ≤ 17) (hj : zi_ir j) (h0 : 0 ≤ j) (hn : j < (σ.1 x).2) (hd : decode cc pc = .ok (.aaload, 1))
    (kk : zi_in (.inr (.inr (σ.2.2.1 x j))) → W p l e R s m args below meth c H locs cells slots Q (F0 m (pc + 1) L (zi_v (.inr (.inr (σ.2.2.1 x j))) :: rest))) : W p l e R s m args below meth c H locs cells slots Q (F0 m pc L (.int (Int32.ofInt j) :: zi_v (.inr (.inr x)) :: rest)) := by
  obtain ⟨hx, hb, -, hown, hts, hK, hnw, -⟩ := C
  obtain ⟨hin, hjj⟩ := zi_idx hj h0 hn
  have hlt : (Int32.ofInt j).toNatClampNeg < (σ.1 x).2.toNat := by omega
  obtain ⟨E, hE, het⟩ : ∃ E, zi_ak k = some (.object E) ∧ zi_et k = 3 := by
    rcases (show k = 14 ∨ k = 15 ∨ k = 16 ∨ k = 17 by omega) with rfl | rfl | rfl | rfl <;> exact ⟨_, rfl, rfl⟩
  obtain ⟨a, ex, er, -, -, -, ⟨cA, h1, h2, h3⟩, h4⟩ := zi_arr hW hk hE
  rw [zi_vr er]
  have h5 := h4 _ hlt
  rw [hjj, het] at h5
  refine W.aald (v := zi_v (.inr (.inr (σ.2.2.1 x j)))) (ty := .object E) hx hb h3 (h1 _ _) rfl (fun q => by cases q) (by rw [arrV_size]; exact hin) ?_ rfl rfl hd (kk h5)
  rw [arrV_read _ _ hlt, hjj, het]
  rfl
theorem zi_alen (C : zi_cx p s m args meth c D cc nL own ini) (hW : zi_W s D base σ H) {x : Int} {k : Nat} (hk : (σ.1 x).1 = k) (hk2 : 12 ≤ k ∧ k ≤ 18) (hd : decode cc pc = .ok (.arraylength, 1))
    (kk : zi_ir (σ.1 x).2 → W p l e R s m args below meth c H locs cells slots Q (F0 m (pc + 1) L (.int (Int32.ofInt (σ.1 x).2) :: rest))) : W p l e R s m args below meth c H locs cells slots Q (F0 m pc L (zi_v (.inr (.inr x)) :: rest)) := by
  obtain ⟨hx, hb, -, hown, hts, hK, hnw, -⟩ := C
  have key : ∀ n : Int, zi_ir n → 0 ≤ n → n.toNat.toInt32 = Int32.ofInt n := by
    intro n hn h0
    have e : n = (n.toNat : Int) := by omega
    rw [e]
    rfl
  by_cases h18 : k = 18
  · subst h18
    obtain ⟨a, ex, er, h5, h6, ⟨cell, h1, h2, h3, h7, h8⟩, h4⟩ := zi_scr hW hk
    rw [zi_vr er]
    exact W.alen hx hb h1 h2 (by rw [h7]; exact key _ h5 h6) rfl rfl hd (kk h5)
  · obtain ⟨ty, hE⟩ : ∃ ty, zi_ak k = some ty := by
      rcases (show k = 12 ∨ k = 13 ∨ k = 14 ∨ k = 15 ∨ k = 16 ∨ k = 17 by omega) with rfl | rfl | rfl | rfl | rfl | rfl <;> exact ⟨_, rfl⟩
    obtain ⟨a, ex, er, -, h5, h6, ⟨cA, h1, h2, h3⟩, h4⟩ := zi_arr hW hk hE
    rw [zi_vr er]
    exact W.alen hx hb h3 (h1 _ _) (by rw [arrV_size]; exact key _ h5 h6) rfl rfl hd (kk h5)
theorem zi_locs {locs : List Loc} {base a k : Nat} (h : ∀ q ∈ locs, base ≤ q.base) (ha : base ≤ a) : ∀ q ∈ locs ++ [(⟨a, k⟩ : Loc)], base ≤ q.base := by
  intro z hz
  rcases List.mem_append.mp hz with h1 | h1
  · exact h z h1
  · rw [List.mem_singleton.mp h1]; exact ha
theorem zi_iast (C : zi_cx p s m args meth c D cc nL own ini) (hW : zi_W s D base σ H) (hlo : ∀ q ∈ locs, base ≤ q.base) {x j v : Int} (hk : (σ.1 x).1 = 12) (hj : zi_ir j) (h0 : 0 ≤ j) (hn : j < (σ.1 x).2) (hv : zi_ir v) (hd : decode cc pc = .ok (.iastore, 1))
    (kk : ∀ (H1 : Heap) (locs1 : List Loc), zi_W s D base (zi_wr σ x j v) H1 → (∀ q ∈ locs1, base ≤ q.base) → W p l e R s m args below meth c H1 locs1 cells slots Q (F0 m (pc + 1) L rest)) : W p l e R s m args below meth c H locs cells slots Q (F0 m pc L (.int (Int32.ofInt v) :: .int (Int32.ofInt j) :: zi_v (.inr (.inr x)) :: rest)) := by
  obtain ⟨hx, hb, -, hown, hts, hK, hnw, -⟩ := C
  obtain ⟨hin, hjj⟩ := zi_idx hj h0 hn
  have hlt : (Int32.ofInt j).toNatClampNeg < (σ.1 x).2.toNat := by omega
  obtain ⟨a, ex, er, hba, -, -, ⟨cA, h1, h2, h3⟩, h4⟩ := zi_arr hW hk (ty := .int) rfl
  rw [zi_vr er]
  refine W.iast hx hb h3 (h1 _ _) (fun q => by cases q) (by rw [arrV_size]; exact hin) rfl rfl hd fun H1 e1 z1 o1 => ?_
  refine kk H1 _ (zi_W_arr (ty := .int) hW ex (by rw [hk]; rfl) zi_only_wr ?_ ?_ z1 o1) (zi_locs hlo hba)
  · intro i hi
    rw [hk]
    show zi_ir (zi_up σ.2.1 x j v x i)
    by_cases hij : (i : Int) = j
    · subst hij; rw [zi_up_eq]; exact hv
    · rw [zi_up_nk hij]; exact h4 i hi
  · intro cB hB
    rw [hk] at hB ⊢
    have hcc : arrV cA (σ.1 x).2.toNat (fun j => zi_v (zi_mkv (zi_et 12) (zi_rd σ (zi_et 12) x j))) = arrV cB (σ.1 x).2.toNat (fun j => zi_v (zi_mkv (zi_et 12) (zi_rd σ (zi_et 12) x j))) := Option.some.inj (h3.symm.trans hB)
    rw [e1, hcc, arrV_store]
    congr 2
    funext i
    show updV _ _ _ i = Value.int (Int32.ofInt (zi_up σ.2.1 x j v x i))
    unfold updV
    by_cases hi : i = (Int32.ofInt j).toNatClampNeg
    · subst hi
      rw [if_pos rfl, hjj, zi_up_eq]
    · rw [if_neg hi, zi_up_nk (by omega)]
      rfl
theorem zi_last (C : zi_cx p s m args meth c D cc nL own ini) (hW : zi_W s D base σ H) (hlo : ∀ q ∈ locs, base ≤ q.base) {x j v : Int} (hk : (σ.1 x).1 = 19) (hj : zi_ir j) (h0 : 0 ≤ j) (hn : j < (σ.1 x).2) (hv : zi_in (.inr (.inl v))) (hd : decode cc pc = .ok (.lastore, 1))
    (kk : ∀ (H1 : Heap) (locs1 : List Loc), zi_W s D base (zi_wr σ x j v) H1 → (∀ q ∈ locs1, base ≤ q.base) → W p l e R s m args below meth c H1 locs1 cells slots Q (F0 m (pc + 1) L rest)) : W p l e R s m args below meth c H locs cells slots Q (F0 m pc L (.long (Int64.ofInt v) :: .int (Int32.ofInt j) :: zi_v (.inr (.inr x)) :: rest)) := by
  obtain ⟨hx, hb, -, hown, hts, hK, hnw, -⟩ := C
  obtain ⟨hin, hjj⟩ := zi_idx hj h0 hn
  have hlt : (Int32.ofInt j).toNatClampNeg < (σ.1 x).2.toNat := by omega
  obtain ⟨a, ex, er, hba, -, -, ⟨cA, h1, h2, h3⟩, h4⟩ := zi_arr hW hk (ty := .long) rfl
  rw [zi_vr er]
  refine W.last hx hb h3 (h1 _ _) (fun q => by cases q) (by rw [arrV_size]; exact hin) rfl rfl hd fun H1 e1 z1 o1 => ?_
  refine kk H1 _ (zi_W_arr (ty := .long) hW ex (by rw [hk]; rfl) zi_only_wr ?_ ?_ z1 o1) (zi_locs hlo hba)
  · intro i hi
    rw [hk]
    show zi_in (.inr (.inl (zi_up σ.2.1 x j v x i)))
    by_cases hij : (i : Int) = j
    · subst hij; rw [zi_up_eq]; exact hv
    · rw [zi_up_nk hij]; exact h4 i hi
  · intro cB hB
    rw [hk] at hB ⊢
    have hcc : arrV cA (σ.1 x).2.toNat (fun j => zi_v (zi_mkv (zi_et 19) (zi_rd σ (zi_et 19) x j))) = arrV cB (σ.1 x).2.toNat (fun j => zi_v (zi_mkv (zi_et 19) (zi_rd σ (zi_et 19) x j))) := Option.some.inj (h3.symm.trans hB)
    rw [e1, hcc, arrV_store]
    congr 2
    funext i
    show updV _ _ _ i = Value.long (Int64.ofInt (zi_up σ.2.1 x j v x i))
    unfold updV
    by_cases hi : i = (Int32.ofInt j).toNatClampNeg
    · subst hi
      rw [if_pos rfl, hjj, zi_up_eq]
    · rw [if_neg hi, zi_up_nk (by omega)]
      rfl
theorem zi_lald (C : zi_cx p s m args meth c D cc nL own ini) (hW : zi_W s D base σ H) {x j : Int} (hk : (σ.1 x).1 = 19) (hj : zi_ir j) (h0 : 0 ≤ j) (hn : j < (σ.1 x).2) (hd : decode cc pc = .ok (.laload, 1))
    (kk : zi_in (.inr (.inl (σ.2.1 x j))) → W p l e R s m args below meth c H locs cells slots Q (F0 m (pc + 1) L (.long (Int64.ofInt (σ.2.1 x j)) :: rest))) : W p l e R s m args below meth c H locs cells slots Q (F0 m pc L (.int (Int32.ofInt j) :: zi_v (.inr (.inr x)) :: rest)) := by
  obtain ⟨hx, hb, -, hown, hts, hK, hnw, -⟩ := C
  obtain ⟨hin, hjj⟩ := zi_idx hj h0 hn
  have hlt : (Int32.ofInt j).toNatClampNeg < (σ.1 x).2.toNat := by omega
  obtain ⟨a, ex, er, -, -, -, ⟨cA, h1, h2, h3⟩, h4⟩ := zi_arr hW hk (ty := .long) rfl
  rw [zi_vr er]
  have h5 := h4 _ hlt
  rw [hjj] at h5
  refine W.lald (v := .long (Int64.ofInt (σ.2.1 x j))) hx hb h3 (h1 _ _) (fun q => by cases q) (by rw [arrV_size]; exact hin) ?_ rfl rfl hd (kk h5)
  rw [arrV_read _ _ hlt, hjj]
  rfl
theorem zi_zast (C : zi_cx p s m args meth c D cc nL own ini) (hW : zi_W s D base σ H) (hlo : ∀ q ∈ locs, base ≤ q.base) {x j v : Int} (hk : (σ.1 x).1 = 13) (hj : zi_ir j) (h0 : 0 ≤ j) (hn : j < (σ.1 x).2) (hv : v = 0 ∨ v = 1) (hd : decode cc pc = .ok (.bastore, 1))
    (kk : ∀ (H1 : Heap) (locs1 : List Loc), zi_W s D base (zi_wr σ x j v) H1 → (∀ q ∈ locs1, base ≤ q.base) → W p l e R s m args below meth c H1 locs1 cells slots Q (F0 m (pc + 1) L rest)) : W p l e R s m args below meth c H locs cells slots Q (F0 m pc L (.int (Int32.ofInt v) :: .int (Int32.ofInt j) :: zi_v (.inr (.inr x)) :: rest)) := by
  obtain ⟨hx, hb, -, hown, hts, hK, hnw, -⟩ := C
  obtain ⟨hin, hjj⟩ := zi_idx hj h0 hn
  have hlt : (Int32.ofInt j).toNatClampNeg < (σ.1 x).2.toNat := by omega
  obtain ⟨a, ex, er, hba, -, -, ⟨cA, h1, h2, h3⟩, h4⟩ := zi_arr hW hk (ty := .boolean) rfl
  rw [zi_vr er]
  refine W.zast hx hb h3 (h1 _ _) (fun q => by cases q) (by rw [arrV_size]; exact hin) rfl rfl hd fun H1 e1 z1 o1 => ?_
  have hnar : narrow .boolean (.int (Int32.ofInt v)) = .int (Int32.ofInt v) := by rcases hv with rfl | rfl <;> decide
  rw [hnar] at e1
  refine kk H1 _ (zi_W_arr (ty := .boolean) hW ex (by rw [hk]; rfl) zi_only_wr ?_ ?_ z1 o1) (zi_locs hlo hba)
  · intro i hi
    rw [hk]
    show zi_ir (zi_up σ.2.1 x j v x i)
    by_cases hij : (i : Int) = j
    · subst hij; rw [zi_up_eq]
      unfold zi_ir
      rcases hv with rfl | rfl <;> omega
    · rw [zi_up_nk hij]; exact h4 i hi
  · intro cB hB
    rw [hk] at hB ⊢
    have hcc : arrV cA (σ.1 x).2.toNat (fun j => zi_v (zi_mkv (zi_et 13) (zi_rd σ (zi_et 13) x j))) = arrV cB (σ.1 x).2.toNat (fun j => zi_v (zi_mkv (zi_et 13) (zi_rd σ (zi_et 13) x j))) := Option.some.inj (h3.symm.trans hB)
    rw [e1, hcc, arrV_store]
    congr 2
    funext i
    show updV _ _ _ i = Value.int (Int32.ofInt (zi_up σ.2.1 x j v x i))
    unfold updV
    by_cases hi : i = (Int32.ofInt j).toNatClampNeg
    · subst hi
      rw [if_pos rfl, hjj, zi_up_eq]
    · rw [if_neg hi, zi_up_nk (by omega)]
      rfl
theorem zi_aast (C : zi_cx p s m args meth c D cc nL own ini) (hW : zi_W s D base σ H) (hlo : ∀ q ∈ locs, base ≤ q.base) {x j v : Int} {k b : Nat} {E : String} {q : vw_C} (hk : (σ.1 x).1 = k) (hE : zi_ak k = some (.object E)) (hk14 : 14 ≤ k) (hq : vwCl[b]? = some q) (hqE : q.1 = E) (hvk : (σ.1 v).1 = b) (hj : zi_ir j) (h0 : 0 ≤ j) (hn : j < (σ.1 x).2) (hd : decode cc pc = .ok (.aastore, 1))
    (kk : ∀ (H1 : Heap) (locs1 : List Loc), zi_W s D base (zi_wq σ x j v) H1 → (∀ q ∈ locs1, base ≤ q.base) → W p l e R s m args below meth c H1 locs1 cells slots Q (F0 m (pc + 1) L rest)) : W p l e R s m args below meth c H locs cells slots Q (F0 m pc L (zi_v (.inr (.inr v)) :: .int (Int32.ofInt j) :: zi_v (.inr (.inr x)) :: rest)) := by
  obtain ⟨hx, hb, -, hown, hts, hK, hnw, -⟩ := C
  obtain ⟨hin, hjj⟩ := zi_idx hj h0 hn
  have hlt : (Int32.ofInt j).toNatClampNeg < (σ.1 x).2.toNat := by omega
  have het : zi_et k = 3 := by
    unfold zi_ak at hE
    split at hE <;> first | rfl | omega | cases hE
  obtain ⟨a, ex, er, hba, -, -, ⟨cA, h1, h2, h3⟩, h4⟩ := zi_arr hW hk hE
  obtain ⟨av, evx, evr, -, ⟨cellV, g1, g2, g3, -⟩, -⟩ := zi_obj hW hvk hq
  rw [zi_vr er, zi_vr evr]
  have hcls := (hK.1 b q hq).2
  obtain ⟨kA, comp, k1, k2, k3, -⟩ := h2
  rw [hqE] at hcls
  have hcomp : comp = D.1 b := Option.some.inj (k3.symm.trans hcls.1)
  subst hcomp
  obtain ⟨kC, hkC, -⟩ := id hcls.2
  refine W.aast hx hb h3 (fun q h => by cases h) (fun h => by cases h) k1 k2 rfl hkC ⟨fun h => hin (Or.inl h), by rw [arrV_size]; exact hlt⟩ g1 (fun q h => by rw [g3] at h; cases h) (by rw [g2]; exact hkC) (by rw [g2]; exact va_assign hcls) rfl rfl hd fun H1 e1 z1 o1 => ?_
  refine kk H1 _ (zi_W_arr hW ex (by rw [hk]; exact hE) zi_only_wq ?_ ?_ z1 o1) (zi_locs hlo hba)
  · intro i hi
    rw [hk, het]
    show (0 : Int) ≤ zi_up σ.2.2.1 x j v x i
    by_cases hij : (i : Int) = j
    · subst hij; rw [zi_up_eq]
      omega
    · rw [zi_up_nk hij]
      have := h4 i hi
      rw [het] at this
      exact this
  · intro cB hB
    rw [hk, het] at hB ⊢
    rw [het] at h3 e1
    have hcc : arrV cA (σ.1 x).2.toNat (fun j => zi_v (zi_mkv 3 (zi_rd σ 3 x j))) = arrV cB (σ.1 x).2.toNat (fun j => zi_v (zi_mkv 3 (zi_rd σ 3 x j))) := Option.some.inj (h3.symm.trans hB)
    rw [e1, hcc, arrV_store]
    congr 2
    funext i
    show updV _ _ _ i = zi_v (.inr (.inr (zi_up σ.2.2.1 x j v x i)))
    unfold updV
    by_cases hi : i = (Int32.ofInt j).toNatClampNeg
    · subst hi
      rw [if_pos rfl, hjj, zi_up_eq]
      exact (zi_vr evr).symm
    · rw [if_neg hi, zi_up_nk (by omega)]
      rfl
theorem zi_newI (C : zi_cx p s m args meth c D cc nL own ini) (hW : zi_W s D base σ H) {at0 : ArrayType} {k : Nat} (hk : (at0 = .int ∧ k = 12) ∨ (at0 = .long ∧ k = 19)) (hwd : Jvm.Cond.arrayClass .int ∈ zi_tb ∧ Jvm.Cond.arrayClass .long ∈ zi_tb) {n : Int} (h0 : 0 ≤ n) (hn : n ≤ 100000) (hcells : cells + 1 ≤ R.cells) (hslots : slots + n.toNat ≤ R.slots) (hd : decode cc pc = .ok (.newarray at0, 2))
    (kk : ∀ H1 : Heap, zi_W s D base (zi_new σ k n n.toNat) H1 → W p l e R s m args below meth c H1 locs (cells + 1) (slots + n.toNat) Q (F0 m (pc + 2) L (zi_v (.inr (.inr σ.2.2.2.1)) :: rest))) : W p l e R s m args below meth c H locs cells slots Q (F0 m pc L (.int (Int32.ofInt n) :: rest)) := by
  obtain ⟨hx, hb, -, hown, hts, hK, hnw, -⟩ := C
  have hir : zi_ir n := by unfold zi_ir; omega
  have hnn : (Int32.ofInt n).toNatClampNeg = n.toNat := by
    show (Int32.ofInt n).toInt.toNat = _
    rw [zi_oi' hir]
  have hneg : ¬ Int32.ofInt n < 0 := by rw [zi_z, zi_lt hir zi_ir0]; omega
  have hro : zi_v (.inr (.inr σ.2.2.2.1)) = .ref H.size := by
    apply zi_vr
    unfold zi_ro
    have := hW.1
    rw [if_neg (by omega)]
    congr 1
    omega
  rcases hk with ⟨rfl, rfl⟩ | ⟨rfl, rfl⟩
  · refine va_newaK (atype := .int) (N := n.toNat) hx hb (hts _ hwd.1) rfl hd rfl hneg hnn ?_ hcells hslots rfl fun H1 cA e1 z1 o1 hA hN => ?_
    · show n.toNat * 4 ≤ 536870912
      omega
    · have := kk H1 (zi_W_new hW (by decide) z1 o1 (fun q hq => by simp [vwCl] at hq) (fun ty hty => by cases hty; exact ⟨hir, h0, cA, hA, hN, e1⟩))
      rw [hro] at this
      exact this
  · refine va_newaK (atype := .long) (N := n.toNat) hx hb (hts _ hwd.2) rfl hd rfl hneg hnn ?_ hcells hslots rfl fun H1 cA e1 z1 o1 hA hN => ?_
    · show n.toNat * 8 ≤ 536870912
      omega
    · have := kk H1 (zi_W_new hW (by decide) z1 o1 (fun q hq => by simp [vwCl] at hq) (fun ty hty => by cases hty; exact ⟨hir, h0, cA, hA, hN, e1⟩))
      rw [hro] at this
      exact this
theorem zi_newQ (C : zi_cx p s m args meth c D cc nL own ini) (hW : zi_W s D base σ H) {idx a : Nat} (hp : zi_pm recs own (idx, 9, a, 0)) {n : Int} (h0 : 0 ≤ n) (hn : n ≤ 100000) (hcells : cells + 1 ≤ R.cells) (hslots : slots + n.toNat ≤ R.slots) (hd : decode cc pc = .ok (.anewarray idx, 3))
    (kk : ∀ H1 : Heap, zi_W s D base (zi_new σ a n n.toNat) H1 → W p l e R s m args below meth c H1 locs (cells + 1) (slots + n.toNat) Q (F0 m (pc + 3) L (zi_v (.inr (.inr σ.2.2.2.1)) :: rest))) : W p l e R s m args below meth c H locs cells slots Q (F0 m pc L (.int (Int32.ofInt n) :: rest)) := by
  obtain ⟨hx, hb, -, hown, hts, hK, hnw, -⟩ := C
  obtain ⟨E, hE, hw1, hw2⟩ := hp
  change zi_ak a = some (.object E) at hE
  have hir : zi_ir n := by unfold zi_ir; omega
  have hnn : (Int32.ofInt n).toNatClampNeg = n.toNat := by
    show (Int32.ofInt n).toInt.toNat = _
    rw [zi_oi' hir]
  have hneg : ¬ Int32.ofInt n < 0 := by rw [zi_z, zi_lt hir zi_ir0]; omega
  have hro : zi_v (.inr (.inr σ.2.2.2.1)) = .ref H.size := by
    apply zi_vr
    unfold zi_ro
    have := hW.1
    rw [if_neg (by omega)]
    congr 1
    omega
  have ha : 14 ≤ a ∧ a ≤ 17 := by
    unfold zi_ak at hE
    split at hE <;> first | omega | cases hE
  have het : zi_et a = 3 := by
    rcases (show a = 14 ∨ a = 15 ∨ a = 16 ∨ a = 17 by omega) with rfl | rfl | rfl | rfl <;> rfl
  refine W.anew hx hb hown (hts _ hw1) (va_AO.use (hnw _ hw2 rfl)) rfl hd rfl hneg (by rw [hnn]; omega) hcells (by rw [hnn]; exact hslots) fun cA kA comp f1 f2 f3 f4 => ?_
  rw [hnn]
  generalize hH1 : H.push ({ cls := cA, slots := Array.replicate n.toNat .null, vm := .none } : Cell) = H1
  have z1 : H1.size = H.size + 1 := by rw [← hH1, Array.size_push]
  have e1 : H1[H.size]? = some (arrV cA n.toNat (fun _ => .null)) := by rw [← hH1, Array.getElem?_push_size, ← arrV_new]
  have o1 : ∀ q : Nat, q < H.size → H1[q]? = H[q]? := fun q hq => by rw [← hH1, Array.getElem?_push, if_neg (Nat.ne_of_lt hq)]
  have hAr : ArrOfT s cA (.object E) := fun N z => ⟨(fun k h => by cases h), kA, f2, comp, f3⟩
  have := kk H1 (zi_W_new hW (by omega) z1 o1 (fun q hq => by
    exfalso
    have := (List.getElem?_eq_some_iff.mp hq).1
    simp [vwCl] at this
    omega) (fun ty hty => by
      rw [hE] at hty
      cases hty
      rw [het]
      exact ⟨hir, h0, cA, hAr, ⟨kA, comp, f2, f3, f4, f1⟩, e1⟩))
  rw [hro] at this
  exact this
theorem zi_dv {t : Nat} {ty : FieldType} (h : zi_tk t ty) : defaultValue ty = zi_v (zi_mkv t 0) := by
  match t, h with
  | 1, h => cases h; decide
  | 2, h => cases h; decide
  | 3, h => rcases h with ⟨C, rfl⟩ | ⟨t, rfl⟩ <;> rfl
theorem zi_newO (C : zi_cx p s m args meth c D cc nL own ini) (hW : zi_W s D base σ H) {idx a : Nat} {b : Int} (hp : zi_pm recs own (idx, 8, a, b)) (hcells : cells + 1 ≤ R.cells) (hslots : slots + b.toNat ≤ R.slots) (hd : decode cc pc = .ok (.new idx, 3))
    (kk : ∀ H1 : Heap, zi_W s D base (zi_new σ a 0 b.toNat) H1 → W p l e R s m args below meth c H1 locs (cells + 1) (slots + b.toNat) Q (F0 m (pc + 3) L (zi_v (.inr (.inr σ.2.2.2.1)) :: rest))) : W p l e R s m args below meth c H locs cells slots Q (F0 m pc L rest) := by
  obtain ⟨hx, hb, -, hown, hts, hK, hnw, -⟩ := C
  obtain ⟨q, hq, hbq, hw1, hw2, hw3⟩ := hp
  change b = (q.2.2 : Int) at hbq
  have hbn : b.toNat = q.2.2 := by omega
  rw [hbn] at hslots kk
  have hro : zi_v (.inr (.inr σ.2.2.2.1)) = .ref H.size := by
    apply zi_vr
    unfold zi_ro
    have := hW.1
    rw [if_neg (by omega)]
    congr 1
    omega
  obtain ⟨hin1, ty, hty, hnm, htk, hdecl⟩ := zi_cls hq
  have hKn := hK.1 a _ hq
  refine W.newcK hx hb hown (hts _ hw1) (hts _ hw2) (hts _ hw3) rfl hd hcells hslots hKn.2.1 rfl fun H1 kC hkC e1 z1 o1 => ?_
  have ha : a < 11 := by
    have := (List.getElem?_eq_some_iff.mp hq).1
    simpa [vwCl] using this
  have := kk H1 (zi_W_new hW (by omega) z1 o1 (fun q' hq' => by
    have e : q' = q := Option.some.inj (hq'.symm.trans hq)
    subst e
    exact (u_born ty hts hin1 hKn hkC e1 hty).to (fun i hi => zi_dv (htk i hi))) (fun ty hty => by
      exfalso
      unfold zi_ak at hty
      split at hty <;> first | omega | cases hty))
  rw [hro] at this
  exact this
end ZH
