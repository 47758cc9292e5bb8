/-! the law's record; the classes as they are known; the memory at the law's entry -/
abbrev zr_L : zi_rec := (yL_law, cL_law, some .boolean, 1, zt_152)
def zr_Lf (cl : zC) : Bool := decide (decode cL_law cl.1 = .ok (cl.2.1, zi_len cl.2.1 cl.2.2.2.1)) && zi_ck zi_nps RL zpl_L (decide (yL_law.name = "<init>")) cl
theorem zr_L_c0 : ((zt_152.1.drop 0).take 40).all zr_Lf = true := by decide +kernel
theorem zr_L_c1 : ((zt_152.1.drop 40).take 40).all zr_Lf = true := by decide +kernel
theorem zr_L_c2 : ((zt_152.1.drop 80).take 40).all zr_Lf = true := by decide +kernel
theorem zr_L_c : ∀ i, i < 3 → ((zt_152.1.drop (40 * i)).take 40).all zr_Lf = true := (zi_lt_cases (zi_lt_cases (zi_lt_cases zi_lt0 zr_L_c0) zr_L_c1) zr_L_c2)
theorem zr_L_len : zt_152.1.length ≤ 120 := by decide +kernel
theorem zr_L_chk : ∀ cl ∈ zt_152.1, decode cL_law cl.1 = .ok (cl.2.1, zi_len cl.2.1 cl.2.2.2.1) ∧ zi_ck zi_nps RL zpl_L (decide (yL_law.name = "<init>")) cl = true := by
  intro cl hcl
  have hl := zr_L_len
  generalize hz : zt_152.1 = z at hcl hl
  obtain ⟨n, hn⟩ := List.getElem?_of_mem hcl
  have hn2 : n < z.length := (List.getElem?_eq_some_iff.mp hn).1
  have hc := zr_L_c (n / 40) (by omega)
  rw [hz] at hc
  have h1 := List.all_eq_true.mp hc cl (List.mem_of_getElem? (i := n % 40) (by
    rw [List.getElem?_take, if_pos (by omega), List.getElem?_drop, show 40 * (n / 40) + n % 40 = n by omega]
    exact hn))
  unfold zr_Lf at h1
  rw [Bool.and_eq_true] at h1
  exact ⟨of_decide_eq_true h1.1, h1.2⟩
theorem zr_L_cut : ∀ q ∈ zt_152.2.1, q.2.length = 6 := by decide
theorem zu_k0 {s : State} {args : Array Value} (hts : ∀ w ∈ lw_tbl, w.before args s = true) : ∃ p : ClassId × (Nat → Nat), u_Kn s RX0 TX0 4 p.1 p.2 := by
  obtain ⟨c, i, h⟩ := u_known (C := RX0) (T := TX0) (N := 4) (n := 4) hts (fun w hw => (List.mem_filter.mp (zi_inX0 w hw)).1) (hts (.instantiable RX0 4) (List.mem_of_getElem? (i := 136) (by decide +kernel)))
  exact ⟨(c, i), h⟩
theorem zu_k1 {s : State} {args : Array Value} (hts : ∀ w ∈ lw_tbl, w.before args s = true) : ∃ p : ClassId × (Nat → Nat), u_Kn s RX1 TX1 4 p.1 p.2 := by
  obtain ⟨c, i, h⟩ := u_known (C := RX1) (T := TX1) (N := 4) (n := 4) hts (fun w hw => (List.mem_filter.mp (zi_inX1 w hw)).1) (hts (.instantiable RX1 4) (List.mem_of_getElem? (i := 110) (by decide +kernel)))
  exact ⟨(c, i), h⟩
theorem zu_k2 {s : State} {args : Array Value} (hts : ∀ w ∈ lw_tbl, w.before args s = true) : ∃ p : ClassId × (Nat → Nat), u_Kn s RX2 TX2 3 p.1 p.2 := by
  obtain ⟨c, i, h⟩ := u_known (C := RX2) (T := TX2) (N := 3) (n := 3) hts (fun w hw => (List.mem_filter.mp (zi_inX2 w hw)).1) (hts (.instantiable RX2 3) (List.mem_of_getElem? (i := 103) (by decide +kernel)))
  exact ⟨(c, i), h⟩
theorem zu_k3 {s : State} {args : Array Value} (hts : ∀ w ∈ lw_tbl, w.before args s = true) : ∃ p : ClassId × (Nat → Nat), u_Kn s RX3 TX3 3 p.1 p.2 := by
  obtain ⟨c, i, h⟩ := u_known (C := RX3) (T := TX3) (N := 3) (n := 3) hts (fun w hw => (List.mem_filter.mp (zi_inX3 w hw)).1) (hts (.instantiable RX3 3) (List.mem_of_getElem? (i := 251) (by decide +kernel)))
  exact ⟨(c, i), h⟩
theorem zu_k4 {s : State} {args : Array Value} (hts : ∀ w ∈ lw_tbl, w.before args s = true) : ∃ p : ClassId × (Nat → Nat), u_Kn s RX4 TX4 11 p.1 p.2 := by
  obtain ⟨c, i, h⟩ := u_known (C := RX4) (T := TX4) (N := 11) (n := 11) hts (fun w hw => (List.mem_filter.mp (zi_inX4 w hw)).1) (hts (.instantiable RX4 11) (List.mem_of_getElem? (i := 196) (by decide +kernel)))
  exact ⟨(c, i), h⟩
theorem zu_k5 {s : State} {args : Array Value} (hts : ∀ w ∈ lw_tbl, w.before args s = true) : ∃ p : ClassId × (Nat → Nat), u_Kn s RX5 TX5 3 p.1 p.2 := by
  obtain ⟨c, i, h⟩ := u_known (C := RX5) (T := TX5) (N := 3) (n := 3) hts (fun w hw => (List.mem_filter.mp (zi_inX5 w hw)).1) (hts (.instantiable RX5 3) (List.mem_of_getElem? (i := 116) (by decide +kernel)))
  exact ⟨(c, i), h⟩
theorem zu_k6 {s : State} {args : Array Value} (hts : ∀ w ∈ lw_tbl, w.before args s = true) : ∃ p : ClassId × (Nat → Nat), u_Kn s RX7 TX7 2 p.1 p.2 := by
  obtain ⟨c, i, h⟩ := u_known (C := RX7) (T := TX7) (N := 2) (n := 2) hts (fun w hw => (List.mem_filter.mp (zi_inX7 w hw)).1) (hts (.instantiable RX7 2) (List.mem_of_getElem? (i := 189) (by decide +kernel)))
  exact ⟨(c, i), h⟩
theorem zu_k7 {s : State} {args : Array Value} (hts : ∀ w ∈ lw_tbl, w.before args s = true) : ∃ p : ClassId × (Nat → Nat), u_Kn s RX8 TX8 4 p.1 p.2 := by
  obtain ⟨c, i, h⟩ := u_known (C := RX8) (T := TX8) (N := 4) (n := 4) hts (fun w hw => (List.mem_filter.mp (zi_inX8 w hw)).1) (hts (.instantiable RX8 4) (List.mem_of_getElem? (i := 77) (by decide +kernel)))
  exact ⟨(c, i), h⟩
theorem zu_k8 {s : State} {args : Array Value} (hts : ∀ w ∈ lw_tbl, w.before args s = true) : ∃ p : ClassId × (Nat → Nat), u_Kn s RX9 TX9 4 p.1 p.2 := by
  obtain ⟨c, i, h⟩ := u_known (C := RX9) (T := TX9) (N := 4) (n := 4) hts (fun w hw => (List.mem_filter.mp (zi_inX9 w hw)).1) (hts (.instantiable RX9 4) (List.mem_of_getElem? (i := 273) (by decide +kernel)))
  exact ⟨(c, i), h⟩
theorem zu_k9 {s : State} {args : Array Value} (hts : ∀ w ∈ lw_tbl, w.before args s = true) : ∃ p : ClassId × (Nat → Nat), u_Kn s RX10 TX10 6 p.1 p.2 := by
  obtain ⟨c, i, h⟩ := u_known (C := RX10) (T := TX10) (N := 6) (n := 6) hts (fun w hw => (List.mem_filter.mp (zi_inX10 w hw)).1) (hts (.instantiable RX10 6) (List.mem_of_getElem? (i := 49) (by decide +kernel)))
  exact ⟨(c, i), h⟩
theorem zu_k10 {s : State} {args : Array Value} (hts : ∀ w ∈ lw_tbl, w.before args s = true) : ∃ p : ClassId × (Nat → Nat), u_Kn s RX11 TX11 10 p.1 p.2 := by
  obtain ⟨c, i, h⟩ := u_known (C := RX11) (T := TX11) (N := 10) (n := 10) hts (fun w hw => (List.mem_filter.mp (zi_inX11 w hw)).1) (hts (.instantiable RX11 10) (List.mem_of_getElem? (i := 41) (by decide +kernel)))
  exact ⟨(c, i), h⟩
theorem zu_known {s : State} {args : Array Value} (hts : ∀ w ∈ lw_tbl, w.before args s = true) : ∃ D : va_G, va_K D vwCl [] s := by
  have hk : ∀ k : Nat, ∃ p : ClassId × (Nat → Nat), ∀ q : vw_C, vwCl[k]? = some q → u_Kn s q.1 q.2.1 q.2.2 p.1 p.2 := by
    intro k
    match k with
    | 0 => exact (zu_k0 hts).elim fun p h => ⟨p, fun q hq => by cases hq; exact h⟩
    | 1 => exact (zu_k1 hts).elim fun p h => ⟨p, fun q hq => by cases hq; exact h⟩
    | 2 => exact (zu_k2 hts).elim fun p h => ⟨p, fun q hq => by cases hq; exact h⟩
    | 3 => exact (zu_k3 hts).elim fun p h => ⟨p, fun q hq => by cases hq; exact h⟩
    | 4 => exact (zu_k4 hts).elim fun p h => ⟨p, fun q hq => by cases hq; exact h⟩
    | 5 => exact (zu_k5 hts).elim fun p h => ⟨p, fun q hq => by cases hq; exact h⟩
    | 6 => exact (zu_k6 hts).elim fun p h => ⟨p, fun q hq => by cases hq; exact h⟩
    | 7 => exact (zu_k7 hts).elim fun p h => ⟨p, fun q hq => by cases hq; exact h⟩
    | 8 => exact (zu_k8 hts).elim fun p h => ⟨p, fun q hq => by cases hq; exact h⟩
    | 9 => exact (zu_k9 hts).elim fun p h => ⟨p, fun q hq => by cases hq; exact h⟩
    | 10 => exact (zu_k10 hts).elim fun p h => ⟨p, fun q hq => by cases hq; exact h⟩
    | k + 11 => exact ⟨(zu_k0 hts).choose, fun q hq => by simp [vwCl] at hq⟩
  obtain ⟨f, hf⟩ := Classical.axiomOfChoice hk
  exact ⟨(fun k => (f k).1, fun k => (f k).2), fun k q hq => hf k q hq, fun k q h => by simp at h⟩
theorem zu_nw {s : State} {args : Array Value} (hts : ∀ w ∈ lw_tbl, w.before args s = true) : zi_nw s := by
  intro w hw hn
  have h := hts w hw
  match w, hn, h with
  | .fieldLinkNest _ _ _ _ _ _, _, h => exact h
  | .methodLinkNest _ _ _ _, _, h => exact h
  | .arrayOver (.object C), _, h => exact h
def zu_S (b L : Nat) : zS := fun y => if y = (b : Int) + 1 then (18, (L : Int)) else (99, 0)
def zu_I (xs : Nat → Int32) : zI := fun _ j => (xs j.toNat).toInt
def zu_R : zI := fun _ _ => 0
theorem zu_S2 {b L : Nat} {y : Int} : (y = (b : Int) + 1 ∧ zu_S b L y = (18, (L : Int))) ∨ (y ≠ (b : Int) + 1 ∧ zu_S b L y = (99, 0)) := by
  by_cases h : y = (b : Int) + 1
  · exact Or.inl ⟨h, if_pos h⟩
  · exact Or.inr ⟨h, if_neg h⟩
theorem zu_W {s : State} {D : va_G} {b L : Nat} {xs : Nat → Int32} (hX : va_X b L xs s s.heap) (hbl : b < s.heap.size) (hL : L ≤ 260) : zi_W s D s.heap.size (zu_S b L, zu_I xs, zu_R, ((s.heap.size : Nat) : Int) + 1, 0) s.heap := by
  refine ⟨rfl, Nat.le_refl _, fun x hx => ?_, fun a => ⟨fun q hq => ?_, fun ty hty => ?_, fun h18 => ?_⟩⟩
  · show 1 ≤ x ∧ x < (s.heap.size : Int) + 1
    rcases zu_S2 (b := b) (L := L) (y := x) with ⟨e, -⟩ | ⟨-, e⟩
    · omega
    · exact absurd (by show (zu_S b L x).1 = 99; rw [e]) hx
  · exfalso
    have hq : vwCl[(zu_S b L ((a : Int) + 1)).1]? = some q := hq
    rcases zu_S2 (b := b) (L := L) (y := (a : Int) + 1) with ⟨-, e⟩ | ⟨-, e⟩
    · rw [e] at hq
      simp [vwCl] at hq
    · rw [e] at hq
      simp [vwCl] at hq
  · exfalso
    have hty : zi_ak (zu_S b L ((a : Int) + 1)).1 = some ty := hty
    rcases zu_S2 (b := b) (L := L) (y := (a : Int) + 1) with ⟨-, e⟩ | ⟨-, e⟩
    · rw [e] at hty
      cases hty
    · rw [e] at hty
      cases hty
  · have h18 : (zu_S b L ((a : Int) + 1)).1 = 18 := h18
    rcases zu_S2 (b := b) (L := L) (y := (a : Int) + 1) with ⟨ea, e⟩ | ⟨-, e⟩
    · have hab : a = b := by omega
      subst hab
      show zi_ir (zu_S a L ((a : Int) + 1)).2 ∧ 0 ≤ (zu_S a L ((a : Int) + 1)).2 ∧ (∃ cell : Cell, s.heap[a]? = some cell ∧ s.isArrayOf cell .int ∧ cell.vm ≠ .unknown ∧ cell.slots.size = (zu_S a L ((a : Int) + 1)).2.toNat ∧ ∀ j : Nat, j < (zu_S a L ((a : Int) + 1)).2.toNat → cell.slots[j]? = some (.int (Int32.ofInt (zu_I xs ((a : Int) + 1) j)))) ∧ ∀ j : Nat, j < (zu_S a L ((a : Int) + 1)).2.toNat → zi_ir (zu_I xs ((a : Int) + 1) j)
      rw [e]
      obtain ⟨scr, h1, h2, h3, h4, h5⟩ := hX
      refine ⟨?_, ?_, ⟨scr, h1, h2, h3, ?_, fun j hj => ?_⟩, fun j hj => ?_⟩
      · show zi_ir (L : Int)
        unfold zi_ir
        omega
      · show (0 : Int) ≤ (L : Int)
        omega
      · rw [h4]; rfl
      · rw [h5 j hj]
        show some (Value.int (xs j)) = some (Value.int (Int32.ofInt (xs j).toInt))
        rw [zi_to]
      · exact ⟨Int32.le_toInt _, Int32.toInt_lt _⟩
    · rw [e] at h18
      cases h18
