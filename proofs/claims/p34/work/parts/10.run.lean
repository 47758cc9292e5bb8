/-! a method, and all methods that it calls -/
theorem zi_cut_mem : ∀ {cu : List (Nat × List Bool)} {pc : Nat} {x : List Bool}, zi_cut cu pc = some x → (pc, x) ∈ cu
  | [], _, _, h => by cases h
  | q :: r, pc, x, h => by
    unfold zi_cut at h
    cases hb : Nat.beq q.1 pc with
    | true =>
      rw [hb] at h
      have h1 := Nat.eq_of_beq_eq_true hb
      cases h
      subst h1
      exact List.mem_cons_self
    | false =>
      rw [hb] at h
      exact List.mem_cons_of_mem _ (zi_cut_mem h)
theorem zi_fr_succ {t : zT} {G : Nat → List zV → zM → zR} {K : Nat → zL → List zV → zM → zR} {n pc : Nat} {ls : zL} {st : List zV} {σ : zM} : zi_fr t G K (n + 1) pc ls st σ = zi_ex t G (fun pc' ls' st' σ' => match zi_cut t.2.1 pc' with
    | some live => K pc' (zi_mask live ls') st' σ'
    | none => zi_fr t G K n pc' ls' st' σ') pc ls st σ := rfl
theorem zi_run_succ {t : zT} {G : Nat → List zV → zM → zR} {n pc : Nat} {ls : zL} {st : List zV} {σ : zM} : zi_run t G (n + 1) pc ls st σ = zi_fr t G (zi_run t G n) 600 pc ls st σ := rfl
theorem zi_fr_le {t : zT} {G : Nat → List zV → zM → zR} {K : Nat → zL → List zV → zM → zR} {res : Int × zM} (HG : zi_G3 G) (HK : ∀ pc' ls' st' σ', K pc' ls' st' σ' = some res → zi_lq σ' res) : ∀ (n : Nat) {pc : Nat} {ls : zL} {st : List zV} {σ : zM}, zi_fr t G K n pc ls st σ = some res → zi_lq σ res
  | 0, _, _, _, _, h => by cases h
  | n + 1, pc, ls, st, σ, h => by
    rw [zi_fr_succ] at h
    refine zi_ex_le HG (fun pc' ls' st' σ' h' => ?_) h
    split at h'
    · exact HK _ _ _ _ h'
    · exact zi_fr_le HG HK n h'
theorem zi_run_le {t : zT} {G : Nat → List zV → zM → zR} {res : Int × zM} (HG : zi_G3 G) : ∀ (n : Nat) {pc : Nat} {ls : zL} {st : List zV} {σ : zM}, zi_run t G n pc ls st σ = some res → zi_lq σ res
  | 0, _, _, _, _, h => by cases h
  | n + 1, pc, ls, st, σ, h => by
    rw [zi_run_succ] at h
    exact zi_fr_le HG (fun pc' ls' st' σ' h' => zi_run_le HG n h') 600 h
theorem zi_G_le (tab : Nat → zT) : ∀ d, zi_G3 (zi_G tab d)
  | 0 => fun a vs σ x σ' h => by cases h
  | d + 1 => fun a vs σ x σ' h => by
    unfold zi_G at h
    cases hb : Nat.ble 1000 a with
    | true =>
      rw [hb] at h
      change zi_nat a vs σ = some (x, σ') at h
      unfold zi_nat at h
      split at h
      all_goals try (cases h; done)
      all_goals try (cases h; exact zi_lq_refl _ _)
      split at h
      · cases h; exact ⟨Int.le_refl _, Nat.le_refl _⟩
      · cases h
    | false =>
      rw [hb] at h
      cases hc : Nat.ble (zi_args vs).length (tab a).2.2.1 with
      | true =>
        rw [hc] at h
        exact zi_run_le (zi_G_le tab d) 1020000 h
      | false =>
        rw [hc] at h
        cases h
section ZR
variable {p : Program} {l : Launch} {e : Env} {R : Room} {s : State} {m : MethodId} {args : Array Value} {below : List Frame} {meth : Method} {c : Code} {Q : State → Prop} {D : va_G} {cc : ByteArray} {nL : Nat} {own : String} {ini : Bool} {base : Nat} {σ0 : zM} {recs : List zi_rec}
/-- the end of a method, for the one who calls it -/
def zi_end (p : Program) (l : Launch) (e : Env) (R : Room) (s : State) (m : MethodId) (args : Array Value) (below : List Frame) (meth : Method) (c : Code) (Q : State → Prop) (D : va_G) (base : Nat) (cc : ByteArray) (σ0 : zM) (rk : Nat) (res : Int × zM) : Prop :=
  ∀ pc L st H locs cells slots ins, decode cc pc = .ok (ins, 1) → zi_endok rk ins st res.1 → (∀ v ∈ st, zi_in v) → zi_I s D base σ0 res.2 H locs cells slots → W p l e R s m args below meth c H locs cells slots Q (F0 m pc L (st.map zi_v))
theorem zi_fr_ok {t : zT} {G : Nat → List zV → zM → zR} {K : Nat → zL → List zV → zM → zR} {res : Int × zM} {nps : List (Nat × Nat)} {pl : List (Nat × Nat × Nat × Int)}
    (C : zi_cx p s m args meth c D cc nL own ini) (hpl : ∀ e ∈ pl, zi_pm recs own e) (hnp : ∀ (a : Nat) (r : zi_rec) (q : Nat × Nat), recs[a]? = some r → nps[a]? = some q → q = (r.2.2.2.1, r.2.2.2.2.2.2.2)) (hwd : Jvm.Cond.arrayClass .int ∈ zi_tb ∧ Jvm.Cond.arrayClass .long ∈ zi_tb)
    (hck : ∀ cl ∈ t.1, decode cc cl.1 = .ok (cl.2.1, zi_len cl.2.1 cl.2.2.2.1) ∧ zi_ck nps own pl ini cl = true) (hcut : ∀ q ∈ t.2.1, q.2.length = nL)
    (HG1 : zi_G1 l R recs G) (HG2 : zi_G2 R G) (HG3 : zi_G3 G) (hroom : (res.2.2.2.2.1 - σ0.2.2.2.1).toNat ≤ R.cells ∧ res.2.2.2.2.2 - σ0.2.2.2.2 ≤ R.slots)
    (HKm : ∀ pc' ls' st' σ', K pc' ls' st' σ' = some res → zi_lq σ' res)
    (HK : ∀ pc' ls' st' σ' L' H' locs' cells' slots', zi_lr ls' nL L' → (∀ v ∈ st', zi_in v) → zi_I s D base σ0 σ' H' locs' cells' slots' → K pc' ls' st' σ' = some res → W p l e R s m args below meth c H' locs' cells' slots' Q (F0 m pc' L' (st'.map zi_v)))
    (Hend : zi_end p l e R s m args below meth c Q D base cc σ0 t.2.2.2 res) :
    ∀ (n : Nat) pc ls st σ L H locs cells slots, zi_lr ls nL L → (∀ v ∈ st, zi_in v) → zi_I s D base σ0 σ H locs cells slots → zi_fr t G K n pc ls st σ = some res → W p l e R s m args below meth c H locs cells slots Q (F0 m pc L (st.map zi_v))
  | 0, _, _, _, _, _, _, _, _, _, _, _, _, h => by cases h
  | n + 1, pc, ls, st, σ, L, H, locs, cells, slots, hl, hst, I, h => by
    rw [zi_fr_succ] at h
    refine zi_ex_ok C hpl hnp hwd hck HG1 HG2 HG3 hroom (fun pc' ls' st' σ' h' => ?_) (fun pc' ls' st' σ' L' H' locs' cells' slots' g1 g2 g3 h' => ?_) (fun ins g1 g2 g3 => Hend _ _ _ _ _ _ _ ins g1 g2 hst (by rw [← g3]; exact I)) I hl hst h
    · split at h'
      · exact HKm _ _ _ _ h'
      · exact zi_fr_le HG3 HKm n h'
    · split at h'
      · rename_i live hlive
        exact HK _ _ _ _ _ _ _ _ _ (zi_lr_mask g1 (by rw [hcut _ (zi_cut_mem hlive)]; exact g1.1.symm)) g2 g3 h'
      · exact zi_fr_ok C hpl hnp hwd hck hcut HG1 HG2 HG3 hroom HKm HK Hend n _ _ _ _ _ _ _ _ _ g1 g2 g3 h'
theorem zi_run_ok {t : zT} {G : Nat → List zV → zM → zR} {res : Int × zM} {nps : List (Nat × Nat)} {pl : List (Nat × Nat × Nat × Int)}
    (C : zi_cx p s m args meth c D cc nL own ini) (hpl : ∀ e ∈ pl, zi_pm recs own e) (hnp : ∀ (a : Nat) (r : zi_rec) (q : Nat × Nat), recs[a]? = some r → nps[a]? = some q → q = (r.2.2.2.1, r.2.2.2.2.2.2.2)) (hwd : Jvm.Cond.arrayClass .int ∈ zi_tb ∧ Jvm.Cond.arrayClass .long ∈ zi_tb)
    (hck : ∀ cl ∈ t.1, decode cc cl.1 = .ok (cl.2.1, zi_len cl.2.1 cl.2.2.2.1) ∧ zi_ck nps own pl ini cl = true) (hcut : ∀ q ∈ t.2.1, q.2.length = nL)
    (HG1 : zi_G1 l R recs G) (HG2 : zi_G2 R G) (HG3 : zi_G3 G) (hroom : (res.2.2.2.2.1 - σ0.2.2.2.1).toNat ≤ R.cells ∧ res.2.2.2.2.2 - σ0.2.2.2.2 ≤ R.slots)
    (Hend : zi_end p l e R s m args below meth c Q D base cc σ0 t.2.2.2 res) :
    ∀ (n : Nat) pc ls st σ L H locs cells slots, zi_lr ls nL L → (∀ v ∈ st, zi_in v) → zi_I s D base σ0 σ H locs cells slots → zi_run t G n pc ls st σ = some res → W p l e R s m args below meth c H locs cells slots Q (F0 m pc L (st.map zi_v))
  | 0, _, _, _, _, _, _, _, _, _, _, _, _, h => by cases h
  | n + 1, pc, ls, st, σ, L, H, locs, cells, slots, hl, hst, I, h =>
    zi_fr_ok C hpl hnp hwd hck hcut HG1 HG2 HG3 hroom (fun pc' ls' st' σ' h' => zi_run_le HG3 n h')
      (fun pc' ls' st' σ' L' H' locs' cells' slots' g1 g2 g3 h' => zi_run_ok C hpl hnp hwd hck hcut HG1 HG2 HG3 hroom Hend n _ _ _ _ _ _ _ _ _ g1 g2 g3 h') Hend 600 pc ls st σ L H locs cells slots hl hst I h
end ZR
/-! the entry -/
theorem zi_sl_len : ∀ vs : List zV, (lg_sl (vs.map zi_v)).length = (zi_args vs).length
  | [] => rfl
  | .inl x :: r => by
    have := zi_sl_len r
    simp only [List.map_cons, zi_args, List.length_cons, ← this]
    rfl
  | .inr (.inl x) :: r => by
    have := zi_sl_len r
    simp only [List.map_cons, zi_args, List.length_cons, ← this]
    rfl
  | .inr (.inr x) :: r => by
    have := zi_sl_len r
    have h : (zi_v (.inr (.inr x))).category = 1 := zi_v_cat1 rfl
    simp only [List.map_cons, zi_args, List.length_cons, ← this]
    unfold lg_sl
    rw [List.flatMap_cons, h]
    simp
theorem zi_args_get : ∀ {vs : List zV} {k i : Nat} {v : zV}, zi_get (zi_args vs) i = some v → (k + i, zi_v v) ∈ lv_args k (vs.map zi_v) ∧ v ∈ vs
  | [], _, _, _, h => by cases h
  | .inl x :: r, k, 0, v, h => by cases h; exact ⟨List.mem_cons_self, List.mem_cons_self⟩
  | .inl x :: r, k, i + 1, v, h => by
    obtain ⟨h1, h2⟩ := zi_args_get (vs := r) (k := k + 1) (i := i) h
    refine ⟨List.mem_cons_of_mem _ ?_, List.mem_cons_of_mem _ h2⟩
    rw [show k + (i + 1) = k + 1 + i by omega]
    exact h1
  | .inr (.inl x) :: r, k, 0, v, h => by cases h; exact ⟨List.mem_cons_self, List.mem_cons_self⟩
  | .inr (.inl x) :: r, k, 1, v, h => by cases h
  | .inr (.inl x) :: r, k, i + 2, v, h => by
    obtain ⟨h1, h2⟩ := zi_args_get (vs := r) (k := k + 2) (i := i) h
    refine ⟨List.mem_cons_of_mem _ ?_, List.mem_cons_of_mem _ h2⟩
    rw [show k + (i + 2) = k + 2 + i by omega]
    exact h1
  | .inr (.inr x) :: r, k, 0, v, h => by cases h; exact ⟨List.mem_cons_self, List.mem_cons_self⟩
  | .inr (.inr x) :: r, k, i + 1, v, h => by
    obtain ⟨h1, h2⟩ := zi_args_get (vs := r) (k := k + 1) (i := i) h
    have hc : (zi_v (.inr (.inr x))).category = 1 := zi_v_cat1 rfl
    refine ⟨?_, List.mem_cons_of_mem _ h2⟩
    rw [List.map_cons, lv_args, hc]
    refine List.mem_cons_of_mem _ ?_
    rw [show k + (i + 1) = k + 1 + i by omega]
    exact h1
theorem zi_get_app : ∀ {a : zL} {n i : Nat} {v : zV}, zi_get (a ++ List.replicate n none) i = some v → zi_get a i = some v
  | [], 0, i, v, h => by cases h
  | [], n + 1, 0, v, h => by cases h
  | [], n + 1, i + 1, v, h => zi_get_app (a := []) (n := n) (i := i) h
  | w :: a, n, 0, v, h => h
  | w :: a, n, i + 1, v, h => zi_get_app (a := a) (n := n) (i := i) h
theorem zi_lr_entry {vs : List zV} {n : Nat} (h : (zi_args vs).length ≤ n) (hin : ∀ v ∈ vs, zi_in v) : zi_lr (zi_loc vs n) n ((lg_sl (vs.map zi_v) ++ List.replicate (n - (lg_sl (vs.map zi_v)).length) Slot.unset).toArray) := by
  have hE := lv_entry (vs.map zi_v) (n := n) (by rw [zi_sl_len]; exact h)
  refine ⟨?_, hE.1, hE.2.1, fun i v hv => ?_⟩
  · unfold zi_loc
    rw [List.length_append, List.length_replicate]
    omega
  · obtain ⟨h1, h2⟩ := zi_args_get (k := 0) (zi_get_app hv)
    rw [Nat.zero_add] at h1
    exact ⟨hE.2.2 _ h1, hin v h2⟩
def zi_rtk (rk : Nat) (rt : Option FieldType) : Prop := (rk = 0 ∧ rt = none) ∨ (rk = 1 ∧ rt = some .int) ∨ (rk = 2 ∧ rt = some .boolean) ∨ (rk = 3 ∧ ∃ n, rt = some (.object n))
def zi_rg (recs : List zi_rec) (nps : List (Nat × Nat)) (r : zi_rec) : Prop := zi_rok r ∧ plainName r.1.cls = true ∧ (∀ q ∈ r.2.2.2.2.2.1, q.2.length = r.2.2.2.2.2.2.1) ∧ zi_rtk r.2.2.2.2.2.2.2 r.2.2.1 ∧ ∃ pl, (∀ e ∈ pl, zi_pm recs r.1.cls e) ∧ ∀ cl ∈ r.2.2.2.2.1, decode r.2.1 cl.1 = .ok (cl.2.1, zi_len cl.2.1 cl.2.2.2.1) ∧ zi_ck nps r.1.cls pl (decide (r.1.name = "<init>")) cl = true
def zi_tab (recs : List zi_rec) (j : Nat) : zT := match recs[j]? with
  | some r => r.2.2.2.2
  | none => ([], [], 0, 0)
theorem zi_run_nil {cu : List (Nat × List Bool)} {a b : Nat} {G : Nat → List zV → zM → zR} {n pc : Nat} {ls : zL} {st : List zV} {σ : zM} : zi_run ([], cu, a, b) G n pc ls st σ = none := by
  cases n with
  | zero => rfl
  | succ n => rfl
set_option maxHeartbeats 4000000 in
theorem zi_G_ok {recs : List zi_rec} {nps : List (Nat × Nat)} (hrecs : ∀ r ∈ recs, zi_rg recs nps r) (hnp : ∀ (a : Nat) (r : zi_rec) (q : Nat × Nat), recs[a]? = some r → nps[a]? = some q → q = (r.2.2.2.1, r.2.2.2.2.2.2.2)) (hwd : Jvm.Cond.arrayClass .int ∈ zi_tb ∧ Jvm.Cond.arrayClass .long ∈ zi_tb) (l : Launch) :
    ∀ (d : Nat) (R : Room), d ≤ R.frames → 38 * d ≤ R.locals → zi_G1 l R recs (zi_G (zi_tab recs) d) ∧ zi_G2 R (zi_G (zi_tab recs) d)
  | 0, R, _, _ => ⟨fun a vs σ x σ' _ h => (by cases h), fun a vs σ x σ' _ h => (by cases h)⟩
  | d + 1, R, hf, hlc => by
    refine ⟨fun a vs σ x σ' ha h hin => ?_, fun a vs σ x σ' ha h => ?_⟩
    · unfold zi_G at h
      have hb : Nat.ble 1000 a = false := by
        cases hb : Nat.ble 1000 a with
        | true => exact absurd (Nat.le_of_ble_eq_true hb) (by omega)
        | false => rfl
      rw [hb] at h
      change (bif Nat.ble (zi_args vs).length (zi_tab recs a).2.2.1 then zi_run (zi_tab recs a) (zi_G (zi_tab recs) d) 1020000 0 (zi_loc vs (zi_tab recs a).2.2.1) [] σ else none) = some (x, σ') at h
      cases hr : recs[a]? with
      | none =>
        exfalso
        have ht : zi_tab recs a = ([], [], 0, 0) := by unfold zi_tab; rw [hr]
        rw [ht] at h
        cases hc : Nat.ble (zi_args vs).length 0 with
        | true => rw [hc, zi_run_nil] at h; cases h
        | false => rw [hc] at h; cases h
      | some r =>
        have ht : zi_tab recs a = r.2.2.2.2 := by unfold zi_tab; rw [hr]
        rw [ht] at h
        obtain ⟨hok, hpn, hcut, hrtk, pl, hpl, hck⟩ := hrecs r (List.mem_of_getElem? hr)
        cases hc : Nat.ble (zi_args vs).length r.2.2.2.2.2.2.1 with
        | false => rw [hc] at h; cases h
        | true =>
          rw [hc] at h
          change zi_run r.2.2.2.2 (zi_G (zi_tab recs) d) 1020000 0 (zi_loc vs r.2.2.2.2.2.2.1) [] σ = some (x, σ') at h
          refine ⟨r, d, rfl, hok, hf, hlc, fun D base => ?_⟩
          refine Met.ofW (cc := r.2.1) (maxL := r.2.2.2.2.2.2.1) (ret := r.2.2.1) hpn rfl ?_
          intro p e s m args below meth c s₁ B hml hv
          obtain ⟨rfl, hK, hnw, hW⟩ := hv
          have hx := B.exec
          have hb := B.bytes
          have hrt := B.returns
          have hts := atoms_spec (ws := zi_ws r) B.pre
          have hown : s.vm.findClass r.1.cls = some m.cls := findClass_of_methodNamed B.named
          have hlocks := B.notSynchronized
          have hnm : meth.name = r.1.name := (name_of_methodNamed B.named B.method).1
          rw [lg_entry_eq]
          have hlr := zi_lr_entry (Nat.le_of_ble_eq_true hc) hin
          have hC : zi_cx p s m (vs.map zi_v).toArray meth c D r.2.1 r.2.2.2.2.2.2.1 r.1.cls (decide (r.1.name = "<init>")) := ⟨hx, hb, hml, hown, fun w hw => hts w (List.mem_cons_of_mem _ hw), hK, hnw, fun q => by rw [hnm]; exact of_decide_eq_true q⟩
          obtain ⟨G1, G2⟩ := zi_G_ok hrecs hnp hwd l d (zi_rm d (σ'.2.2.2.1 - σ.2.2.2.1).toNat (σ'.2.2.2.2 - σ.2.2.2.2)) (Nat.le_refl d) (Nat.le_refl _)
          refine zi_run_ok (recs := recs) (σ0 := σ) (res := (x, σ')) hC hpl hnp hwd hck hcut G1 G2 (zi_G_le _ d) ⟨Nat.le_refl _, Nat.le_refl _⟩ ?_ 1020000 0 _ [] σ _ s.heap [] 0 0 hlr (fun v hv => absurd hv List.not_mem_nil) ⟨hW, fun q hq => absurd hq List.not_mem_nil, by omega, by omega, Int.le_refl _, Nat.le_refl _⟩ h
          intro pc L st H locs cells slots ins hd hend hst I
          obtain ⟨hW', hlo, rfl, rfl, -, -⟩ := I
          rcases hend with ⟨rfl, rfl, hrk⟩ | ⟨rfl, rfl, hrk⟩ | ⟨rfl, rfl, hx0, hrk⟩
          · have iv : zi_ir x := hst _ List.mem_cons_self
            have hrk' : (r.2.2.2.2.2.2.2 = 1 ∨ (r.2.2.2.2.2.2.2 = 2 ∧ (x = 0 ∨ x = 1))) := hrk
            have hmk : zi_mkv r.2.2.2.2.2.2.2 x = .inl x ∧ zi_rv r.2.2.2.2.2.2.2 x = some (.int (Int32.ofInt x)) := by
              rcases hrk' with q | ⟨q, -⟩ <;> rw [q] <;> exact ⟨rfl, rfl⟩
            have hq : ∀ t : State, t.heap = H → s.WarmedH t.vm → zi_Qc D base r.2.2.2.2.2.2.2 x σ' (vs.map zi_v).toArray s (.returned (some (.int (Int32.ofInt x)))) t := fun t ht hWm => ⟨by rw [hmk.2], by rw [hmk.1]; exact iv, va_K.moved hWm.alike hK, by rw [ht]; exact zi_W.moved hWm.alike hW'⟩
            rcases hrtk with ⟨q, -⟩ | ⟨q, hty⟩ | ⟨q, hty⟩ | ⟨q, -⟩
            · rcases hrk' with z | ⟨z, -⟩ <;> rw [q] at z <;> cases z
            · exact W.zret (ty := .int) hx hb (by rw [hrt, hty]) rfl hq hlo hd hlocks
            · rcases hrk' with z | ⟨-, z⟩
              · rw [q] at z; cases z
              · exact W.zret (ty := .boolean) hx hb (by rw [hrt, hty]) (by rcases z with rfl | rfl <;> decide) hq hlo hd hlocks
            · rcases hrk' with z | ⟨z, -⟩ <;> rw [q] at z <;> cases z
          · have iv : 0 ≤ x := hst _ List.mem_cons_self
            change r.2.2.2.2.2.2.2 = 3 at hrk
            have hq : ∀ t : State, t.heap = H → s.WarmedH t.vm → zi_Qc D base r.2.2.2.2.2.2.2 x σ' (vs.map zi_v).toArray s (.returned (some (zi_v (.inr (.inr x))))) t := fun t ht hWm => ⟨by rw [hrk]; rfl, by rw [hrk]; exact iv, va_K.moved hWm.alike hK, by rw [ht]; exact zi_W.moved hWm.alike hW'⟩
            rcases hrtk with ⟨q, -⟩ | ⟨q, hty⟩ | ⟨q, hty⟩ | ⟨q, n, hty⟩
            · rw [q] at hrk; cases hrk
            · rw [q] at hrk; cases hrk
            · rw [q] at hrk; cases hrk
            · exact W.aret (rt := .object n) (v := zi_v (.inr (.inr x))) hx hb (by rw [hrt, hty]) (Or.inl ⟨n, rfl⟩) (by
                cases hr : zi_ro x with
                | none => exact Or.inl (zi_null hr)
                | some y => exact Or.inr ⟨y, zi_vr hr⟩) hq hlo hd hlocks
          · change x = 0 at hx0
            change r.2.2.2.2.2.2.2 = 0 at hrk
            subst hx0
            have hq : ∀ t : State, t.heap = H → s.WarmedH t.vm → zi_Qc D base r.2.2.2.2.2.2.2 0 σ' (vs.map zi_v).toArray s (.returned none) t := fun t ht hWm => ⟨by rw [hrk]; rfl, by rw [hrk]; exact zi_ir0, va_K.moved hWm.alike hK, by rw [ht]; exact zi_W.moved hWm.alike hW'⟩
            rcases hrtk with ⟨q, hty⟩ | ⟨q, hty⟩ | ⟨q, hty⟩ | ⟨q, n, hty⟩
            · exact W.vret hx hb (by rw [hrt, hty]) hq hlo hd hlocks
            · rw [q] at hrk; cases hrk
            · rw [q] at hrk; cases hrk
            · rw [q] at hrk; cases hrk
    · unfold zi_G at h
      have hb : Nat.ble 1000 a = true := Nat.ble_eq_true_of_le ha
      rw [hb] at h
      exact ⟨h, by omega, by omega⟩
