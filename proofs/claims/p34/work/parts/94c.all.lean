/-! the law: all, one number for one state -/
section ZA6
variable {d : Nat} {S : zS} {I J R : zI} {T : Int × Nat} {X n v l f c k x y z r i j p w t m e a b N : Int} {P Q : Int → Int} {σ : zM}
/-- a line's rows, as its page and the settings have them -/
noncomputable def zH_q (P : Int → Int) (w t m e l : Int) : Int × (Int → Int) × (Int → Int) := Classical.epsilon (fun q => ∃ ceA hA rB : Int → Int, zl_ok (P (1 + l)) w t m (zl_ind (P (1 + l)) w t m e (zt_sg P l)) (zt_sg P l) q.1 q.2.1 q.2.2 ceA hA rB)
theorem zH_eq (h : zA_now S I R X P w t m e) (hl : 0 ≤ l ∧ l < P 0) : (zH_q P w t m e l).1 = I (X + 135 + 11 + 9 * l) 1 ∧ ∀ i, 0 ≤ i → i ≤ P (1 + l) → (zH_q P w t m e l).2.1 i = I (X + 135 + 11 + 9 * l + 1) i ∧ (zH_q P w t m e l).2.2 i = I (X + 135 + 11 + 9 * l + 2) i := by
  have pic := (zA_pic h hl).2.2.1
  have sp : ∃ ceA hA rB : Int → Int, zl_ok (P (1 + l)) w t m (zl_ind (P (1 + l)) w t m e (zt_sg P l)) (zt_sg P l) (zH_q P w t m e l).1 (zH_q P w t m e l).2.1 (zH_q P w t m e l).2.2 ceA hA rB := Classical.epsilon_spec (p := fun q : Int × (Int → Int) × (Int → Int) => ∃ ceA hA rB : Int → Int, zl_ok (P (1 + l)) w t m (zl_ind (P (1 + l)) w t m e (zt_sg P l)) (zt_sg P l) q.1 q.2.1 q.2.2 ceA hA rB) ⟨(_, _, _), _, _, _, pic⟩
  obtain ⟨_, _, _, q⟩ := sp
  obtain ⟨u1, -, u3, -⟩ := zl_uniq (zA_len h hl).1 q pic
  exact ⟨u1, u3⟩
noncomputable def zH_B (P : Int → Int) (w t m e v : Int) : Int := zk_sm (zt_vis P (fun l => (zH_q P w t m e l).1)) v
theorem zH_Beq (h : zA_now S I R X P w t m e) (hv : 0 ≤ v ∧ v ≤ P 0) : zH_B P w t m e v = zA_B I X P v := by
  unfold zH_B zA_B
  refine zk_sm_congr (fun k k1 k2 => ?_)
  by_cases g : zt_hid P k
  · rw [zt_vis_t g, zt_vis_t g]
  · rw [zt_vis_f g, zt_vis_f g]
    exact (zH_eq h (l := k) (by omega)).1
noncomputable def zH_rule (P : Int → Int) (w t m e x : Int) : Int := if x = 0 then P 0 else if x = 1 then zk_sm (fun l => P (1 + l)) (P 0) else if x = 2 then zH_B P w t m e (P 0) else if x = 3 then zk_sm (fun l => zq (zt_hid P l)) (P 0) else if x = 4 then P 493 else if x = 5 then zk_sm (fun k => zq (P (496 + 3 * k) = 1)) (P 493) else if x = 6 then w else if x = 7 then t else if x = 8 then m else e
theorem zH_ruleV (h : zA_now S I R X P w t m e) (hx : 0 ≤ x ∧ x < 10) : zG (d + 10) 102 [.inr (.inr X), .inl x] (S, I, R, T) = some (zH_rule P w t m e x, (S, I, R, T)) := by
  have h0 := (zA_pg h).1
  rcases (show x = 0 ∨ x = 1 ∨ x = 2 ∨ x = 3 ∨ x = 4 ∨ x = 5 ∨ x = 6 ∨ x = 7 ∨ x = 8 ∨ x = 9 by omega) with g | g | g | g | g | g | g | g | g | g <;> subst g
  · rw [zA_rule0 h]; rfl
  · rw [zA_rule1 h]; rfl
  · rw [zA_rule2 h, ← zH_Beq h (v := P 0) (by omega)]; rfl
  · rw [zA_rule3 h]; rfl
  · rw [zA_rule4 h]; rfl
  · rw [zA_rule5 h]; rfl
  · rw [zA_rule6 h]; rfl
  · rw [zA_rule7 h]; rfl
  · rw [zA_rule8 h]; rfl
  · rw [zA_rule9 h]; rfl
theorem zH_at0 (h : zA_now S I R X P w t m e) (hl : 0 ≤ l ∧ l < P 0) (hi : 0 ≤ i ∧ i ≤ P (1 + l)) : zG (d + 10) 107 [.inr (.inr X), .inl l, .inl i, .inl 0] (S, I, R, T) = some (zt_if (zt_hid P l) (-4) (zH_B P w t m e l + (zH_q P w t m e l).2.1 i), (S, I, R, T)) := by
  rw [zA_at0 h hl hi, zH_Beq h (v := l) (by omega), ((zH_eq h hl).2 i hi.1 hi.2).1]
theorem zH_at1 (h : zA_now S I R X P w t m e) (hl : 0 ≤ l ∧ l < P 0) (hi : 0 ≤ i ∧ i ≤ P (1 + l)) : zG (d + 10) 107 [.inr (.inr X), .inl l, .inl i, .inl 1] (S, I, R, T) = some ((zH_q P w t m e l).2.2 i, (S, I, R, T)) := by
  rw [zA_at1 h hl hi, ((zH_eq h hl).2 i hi.1 hi.2).2]
/-- a stretch of 'all': what it comes to is one number for one page and settings -/
def zH_one (d : Nat) (P : Int → Int) (w t m e : Int) (W : Nat) (pc : Nat) (ls : List (Option zV)) : Prop := ∃ hh : Int, ∀ (S : zS) (I R : zI) (X : Int) (T : Int × Nat) (w' : Nat), zA_now S I R X P w t m e → W ≤ w' → zi_run zt_146 (zG (d + 10)) w' pc (some (.inr (.inr X)) :: ls) [] (S, I, R, T) = some (hh, (S, I, R, T))
theorem zH_96 : ∀ (u : Nat) (k h0 : Int), (u : Int) + k = P 493 → 0 ≤ k → zH_one d P w t m e (u + 1) 96 [some (.inl h0), some (.inl k), none] := by
  intro u
  induction u with
  | zero =>
    intro k h0 e1 e2
    refine ⟨zi_w (zi_w (31 * zi_w (zi_w (31 * h0) + P 518)) + P 519), fun S I R X T w' h hw => ?_⟩
    obtain ⟨w', rfl⟩ : ∃ w'', w' = w'' + 1 := ⟨w' - 1, by omega⟩
    have x1 := zcl_x1 h.1
    have ru := zA_rule4 (d := d) (T := T) h
    have ca0 := zA_caret0 (d := d) (T := T) h
    have ca1 := zA_caret1 (d := d) (T := T) h
    rw [zk_146_96]
    ((try simp only [zbd_conv]); simp (disch := first | assumption | omega | trivial) only [↓reduceIte, zbd_some, eq_self, Int.reduceEq, Int.reduceLT, Int.reduceLE, and_self, or_true, true_or, or_false, false_or, if_pos, if_neg, if_true, if_false, true_and, and_true, not_true_eq_false, not_false_eq_true, false_and, and_false, Option.bind_some, zq_t, zq_f, zq0, zq1, zw_id, x1, ru, ca0, ca1])
  | succ u ih =>
    intro k h0 e1 e2
    obtain ⟨hh, ih⟩ := ih (k + 1) (zi_w (zi_w (31 * zi_w (zi_w (31 * zi_w (zi_w (31 * h0) + P (494 + 3 * k))) + P (495 + 3 * k))) + P (496 + 3 * k))) (by omega) (by omega)
    refine ⟨hh, fun S I R X T w' h hw => ?_⟩
    obtain ⟨w', rfl⟩ : ∃ w'', w' = w'' + 1 := ⟨w' - 1, by omega⟩
    have x1 := zcl_x1 h.1
    have g3 := (zA_pg h).2.2.1
    have ru := zA_rule4 (d := d) (T := T) h
    have k0 := zA_fold0 (d := d) (T := T) h (k := k) (by omega)
    have k1 := zA_fold1 (d := d) (T := T) h (k := k) (by omega)
    have k2 := zA_fold2 (d := d) (T := T) h (k := k) (by omega)
    have go := ih S I R X T w' h (by omega)
    rw [zk_146_96]
    ((try simp only [zbd_conv]); simp (disch := first | assumption | omega | trivial) only [↓reduceIte, zbd_some, eq_self, Int.reduceEq, Int.reduceLT, Int.reduceLE, and_self, or_true, true_or, or_false, false_or, if_pos, if_neg, if_true, if_false, true_and, and_true, not_true_eq_false, not_false_eq_true, false_and, and_false, Option.bind_some, zq_t, zq_f, zq0, zq1, zw_id, x1, ru, k0, k1, k2])
    exact go
theorem zH_41 {W : Nat} (hl : 0 ≤ l ∧ l < P 0) (hc : ∀ h0, zH_one d P w t m e W 30 [some (.inl h0), some (.inl (l + 1)), none]) : ∀ (u : Nat) (i h0 : Int), (u : Int) + i = P (1 + l) + 1 → 0 ≤ i → zH_one d P w t m e (W + u + 1) 41 [some (.inl h0), some (.inl l), some (.inl i)] := by
  intro u
  induction u with
  | zero =>
    intro i h0 e1 e2
    obtain ⟨hh, ih⟩ := hc h0
    refine ⟨hh, fun S I R X T w' h hw => ?_⟩
    obtain ⟨w', rfl⟩ : ∃ w'', w' = w'' + 1 := ⟨w' - 1, by omega⟩
    have x1 := zcl_x1 h.1
    have g1 := (zA_pg h).1
    have li := zA_line0 (d := d) (T := T) h hl
    have go := ih S I R X T w' h (by omega)
    rw [zk_146_41]
    ((try simp only [zbd_conv]); simp (disch := first | assumption | omega | trivial) only [↓reduceIte, zbd_some, eq_self, Int.reduceEq, Int.reduceLT, Int.reduceLE, and_self, or_true, true_or, or_false, false_or, if_pos, if_neg, if_true, if_false, true_and, and_true, not_true_eq_false, not_false_eq_true, false_and, and_false, Option.bind_some, zq_t, zq_f, zq0, zq1, zw_id, x1, li])
    exact go
  | succ u ih =>
    intro i h0 e1 e2
    obtain ⟨hh, ih⟩ := ih (i + 1) (zi_w (zi_w (zi_w (zi_w (31 * h0) + (if i < P (1 + l) then P (13 + 40 * l + i) else -4)) + zi_w (77 * (zt_if (zt_hid P l) (-4) (zH_B P w t m e l + (zH_q P w t m e l).2.1 i)))) + (zH_q P w t m e l).2.2 i)) (by omega) (by omega)
    refine ⟨hh, fun S I R X T w' h hw => ?_⟩
    obtain ⟨w', rfl⟩ : ∃ w'', w' = w'' + 1 := ⟨w' - 1, by omega⟩
    have x1 := zcl_x1 h.1
    have hn := zA_len h hl
    have li := zA_line0 (d := d) (T := T) h hl
    have sg := zA_sign (d := d) (T := T) (i := i) h hl e2
    have at0 := zH_at0 (d := d) (T := T) h hl (i := i) (by omega)
    have at1 := zH_at1 (d := d) (T := T) h hl (i := i) (by omega)
    have go := ih S I R X T w' h (by omega)
    generalize (if i < P (1 + l) then P (13 + 40 * l + i) else -4) = v1 at sg go
    generalize zt_if (zt_hid P l) (-4) (zH_B P w t m e l + (zH_q P w t m e l).2.1 i) = v2 at at0 go
    generalize (zH_q P w t m e l).2.2 i = v3 at at1 go
    rw [zk_146_41]
    ((try simp only [zbd_conv]); simp (disch := first | assumption | omega | trivial) only [↓reduceIte, zbd_some, eq_self, Int.reduceEq, Int.reduceLT, Int.reduceLE, and_self, or_true, true_or, or_false, false_or, if_pos, if_neg, if_true, if_false, true_and, and_true, not_true_eq_false, not_false_eq_true, false_and, and_false, Option.bind_some, zq_t, zq_f, zq0, zq1, zw_id, x1, li, sg, at0, at1])
    exact go
theorem zH_30 (h1 : 0 ≤ P 493) (h2 : ∀ l, 0 ≤ l → l < P 0 → 0 ≤ P (1 + l) ∧ P (1 + l) ≤ 40) (h3 : P 493 ≤ 8) : ∀ (u : Nat) (l h0 : Int), (u : Int) + l = P 0 → 0 ≤ l → zH_one d P w t m e (44 * u + 12) 30 [some (.inl h0), some (.inl l), none] := by
  intro u
  induction u with
  | zero =>
    intro l h0 e1 e2
    obtain ⟨hh, ih⟩ := zH_96 (d := d) (P := P) (w := w) (t := t) (m := m) (e := e) (P 493).toNat 0 h0 (by omega) (by omega)
    refine ⟨hh, fun S I R X T w' h hw => ?_⟩
    obtain ⟨w', rfl⟩ : ∃ w'', w' = w'' + 1 := ⟨w' - 1, by omega⟩
    have x1 := zcl_x1 h.1
    have ru := zA_rule0 (d := d) (T := T) h
    have go := ih S I R X T w' h (by omega)
    rw [zk_146_30]
    ((try simp only [zbd_conv]); simp (disch := first | assumption | omega | trivial) only [↓reduceIte, zbd_some, eq_self, Int.reduceEq, Int.reduceLT, Int.reduceLE, and_self, or_true, true_or, or_false, false_or, if_pos, if_neg, if_true, if_false, true_and, and_true, not_true_eq_false, not_false_eq_true, false_and, and_false, Option.bind_some, zq_t, zq_f, zq0, zq1, zw_id, x1, ru])
    exact go
  | succ u ih =>
    intro l h0 e1 e2
    have hn := h2 l e2 (by omega)
    obtain ⟨hh, ih⟩ := zH_41 (d := d) (P := P) (w := w) (t := t) (m := m) (e := e) (W := 44 * u + 12) (l := l) (by omega) (fun h0 => ih (l + 1) h0 (by omega) (by omega)) (P (1 + l) + 1).toNat 0 h0 (by omega) (by omega)
    refine ⟨hh, fun S I R X T w' h hw => ?_⟩
    obtain ⟨w', rfl⟩ : ∃ w'', w' = w'' + 1 := ⟨w' - 1, by omega⟩
    have x1 := zcl_x1 h.1
    have ru := zA_rule0 (d := d) (T := T) h
    have go := ih S I R X T w' h (by omega)
    rw [zk_146_30]
    ((try simp only [zbd_conv]); simp (disch := first | assumption | omega | trivial) only [↓reduceIte, zbd_some, eq_self, Int.reduceEq, Int.reduceLT, Int.reduceLE, and_self, or_true, true_or, or_false, false_or, if_pos, if_neg, if_true, if_false, true_and, and_true, not_true_eq_false, not_false_eq_true, false_and, and_false, Option.bind_some, zq_t, zq_f, zq0, zq1, zw_id, x1, ru])
    exact go
theorem zH_5 (h0 : 1 ≤ P 0 ∧ P 0 ≤ 12) (h1 : 0 ≤ P 493) (h2 : ∀ l, 0 ≤ l → l < P 0 → 0 ≤ P (1 + l) ∧ P (1 + l) ≤ 40) (h3 : P 493 ≤ 8) : ∀ (u : Nat) (x h0 : Int), (u : Int) + x = 10 → 0 ≤ x → zH_one d P w t m e (u + 600) 5 [some (.inl h0), some (.inl x), none] := by
  intro u
  induction u with
  | zero =>
    intro x h0 e1 e2
    obtain ⟨hh, ih⟩ := zH_30 (d := d) (P := P) (w := w) (t := t) (m := m) (e := e) h1 h2 h3 (P 0).toNat 0 h0 (by omega) (by omega)
    refine ⟨hh, fun S I R X T w' h hw => ?_⟩
    obtain ⟨w', rfl⟩ : ∃ w'', w' = w'' + 1 := ⟨w' - 1, by omega⟩
    have go := ih S I R X T w' h (by omega)
    rw [zk_146_5]
    ((try simp only [zbd_conv]); simp (disch := first | assumption | omega | trivial) only [↓reduceIte, zbd_some, eq_self, Int.reduceEq, Int.reduceLT, Int.reduceLE, and_self, or_true, true_or, or_false, false_or, if_pos, if_neg, if_true, if_false, true_and, and_true, not_true_eq_false, not_false_eq_true, false_and, and_false, Option.bind_some, zq_t, zq_f, zq0, zq1, zw_id])
    exact go
  | succ u ih =>
    intro x h0 e1 e2
    obtain ⟨hh, ih⟩ := ih (x + 1) (zi_w (zi_w (31 * h0) + zH_rule P w t m e x)) (by omega) (by omega)
    refine ⟨hh, fun S I R X T w' h hw => ?_⟩
    obtain ⟨w', rfl⟩ : ∃ w'', w' = w'' + 1 := ⟨w' - 1, by omega⟩
    have x1 := zcl_x1 h.1
    have ru := zH_ruleV (d := d) (T := T) h (x := x) (by omega)
    have go := ih S I R X T w' h (by omega)
    rw [zk_146_5]
    ((try simp only [zbd_conv]); simp (disch := first | assumption | omega | trivial) only [↓reduceIte, zbd_some, eq_self, Int.reduceEq, Int.reduceLT, Int.reduceLE, and_self, or_true, true_or, or_false, false_or, if_pos, if_neg, if_true, if_false, true_and, and_true, not_true_eq_false, not_false_eq_true, false_and, and_false, Option.bind_some, zq_t, zq_f, zq0, zq1, zw_id, x1, ru])
    exact go
theorem zH_all0 (hP : zw_page P) : ∃ hh : Int, ∀ (S : zS) (I R : zI) (X : Int) (T : Int × Nat), zA_now S I R X P w t m e → zG (d + 11) 146 [.inr (.inr X)] (S, I, R, T) = some (hh, (S, I, R, T)) := by
  obtain ⟨hh, ih⟩ := zH_5 (d := d) (w := w) (t := t) (m := m) (e := e) hP.1 hP.2.2.1.1 hP.2.1 hP.2.2.1.2 10 0 7 (by omega) (by omega)
  refine ⟨hh, fun S I R X T h => ?_⟩
  have go := ih S I R X T 1019999 h (by omega)
  rw [zm_146]
  exact go
/-- what 'all' answers -/
noncomputable def zH_all (d : Nat) (P : Int → Int) (w t m e : Int) : Int := Classical.epsilon (fun hh => ∀ (S : zS) (I R : zI) (X : Int) (T : Int × Nat), zA_now S I R X P w t m e → zG (d + 11) 146 [.inr (.inr X)] (S, I, R, T) = some (hh, (S, I, R, T)))
theorem zH_all_ok (h : zA_now S I R X P w t m e) : zG (d + 11) 146 [.inr (.inr X)] (S, I, R, T) = some (zH_all d P w t m e, (S, I, R, T)) := Classical.epsilon_spec (p := fun hh : Int => ∀ (S : zS) (I R : zI) (X : Int) (T : Int × Nat), zA_now S I R X P w t m e → zG (d + 11) 146 [.inr (.inr X)] (S, I, R, T) = some (hh, (S, I, R, T))) (zH_all0 (zA_pg h)) S I R X T h
end ZA6
