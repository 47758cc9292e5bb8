/-! a text is read, sign by sign: what both sides come to -/
abbrev zT4 : Type := (Int → Int) × (Int → Int) × Int × Int
noncomputable def zt_byte (c : Int) (q : zT4) : Int × zT4 :=
  zt_if (zf_sign c) (if q.1 (q.1 0) = 40 then (2, q) else (0, zt_up (zt_up q.1 (13 + 40 * (q.1 0 - 1) + q.1 (q.1 0)) c) (q.1 0) (q.1 (q.1 0) + 1), q.2))
  (if c = 10 then (if q.1 0 = 12 then (3, q) else (0, zt_up q.1 0 (q.1 0 + 1), q.2))
  else if c = 91 then (if q.2.2.2 = 8 then (4, q) else (0, q.1, zt_up q.2.1 q.2.2.1 (q.1 0 - 1), q.2.2.1 + 1, q.2.2.2 + 1))
  else if c = 93 then (if q.2.2.1 = 0 then (5, q) else zt_if (q.2.1 (q.2.2.1 - 1) < q.1 0 - 1 ∧ ¬ zt_ag q.1 (q.2.1 (q.2.2.1 - 1)) (q.1 0 - 1)) (0, zt_fins q.1 (q.1 493) (zt_pos q.1 (q.2.1 (q.2.2.1 - 1)) (q.1 0 - 1)) (q.2.1 (q.2.2.1 - 1)) (q.1 0 - 1) 0, q.2.1, q.2.2.1 - 1, q.2.2.2) (5, q))
  else (1, q))
def zt_zero : zT4 := (fun j => if j = 0 then 1 else 0, fun _ => 0, 0, 0)
noncomputable def zt_iter (tp : Int → Int) : Nat → zT4
  | 0 => zt_zero
  | i + 1 => (zt_byte (tp i) (zt_iter tp i)).2
noncomputable def zt_flt (tp : Int → Int) (i : Nat) : Int := (zt_byte (tp i) (zt_iter tp i)).1
/-- what is read of the first n -/
def zt_res (tp : Int → Int) (n v pl : Int) : Prop := (∃ i : Nat, (i : Int) < n ∧ (∀ j : Nat, j < i → zt_flt tp j = 0) ∧ ¬ zt_flt tp i = 0 ∧ v = zt_flt tp i ∧ pl = i) ∨ ((∀ j : Nat, (j : Int) < n → zt_flt tp j = 0) ∧ pl = n ∧ v = if 0 < (zt_iter tp n.toNat).2.2.1 then 6 else 0)
/-- a text that is read so far -/
def zw_text (q : zT4) : Prop := zw_page q.1 ∧ (∀ l, q.1 0 ≤ l → l < 12 → q.1 (1 + l) = 0) ∧ (q.1 518 = 0 ∧ q.1 519 = 0) ∧ (0 ≤ q.2.2.1 ∧ q.2.2.1 ≤ q.2.2.2 ∧ q.2.2.2 ≤ 8) ∧ (∀ j, 0 ≤ j → j < q.2.2.1 → 0 ≤ q.2.1 j ∧ q.2.1 j < q.1 0) ∧ q.1 493 + q.2.2.1 ≤ q.2.2.2
theorem zw_page_up {P : Int → Int} {k v l : Int} (hw : zw_page P) (hl : 0 ≤ l ∧ l < P 0) (hv : 0 ≤ v ∧ v ≤ 40) (hp : l = P 518 → P 519 ≤ v) (hk : 13 ≤ k ∧ k < 493) (c : Int) : zw_page (zt_up (zt_up P k c) (1 + l) v) := by
  obtain ⟨w1, w2, w3, w4, w5, w6, w7, w8⟩ := hw
  have e : ∀ j, j ≠ 1 + l → (j < 13 ∨ 493 ≤ j) → zt_up (zt_up P k c) (1 + l) v j = P j := fun j j1 j2 => by rw [zt_up_ne j1, zt_up_ne (by omega)]
  have el : zt_up (zt_up P k c) (1 + l) v (1 + l) = v := zt_up_eq rfl
  refine ⟨by rw [e 0 (by omega) (by omega)]; exact w1, fun l' l1 l2 => ?_, by rw [e 493 (by omega) (by omega)]; exact w3, fun j j1 j2 => ?_, fun i j i1 ij j2 => ?_, by rw [e 518 (by omega) (by omega), e 0 (by omega) (by omega)]; exact w6, by rw [e 519 (by omega) (by omega)]; exact w7, ?_⟩
  · rw [e 0 (by omega) (by omega)] at l2
    by_cases q : l' = l
    · rw [q, el]; exact hv
    · rw [e (1 + l') (by omega) (by omega)]; exact w2 l' l1 l2
  · rw [e 493 (by omega) (by omega)] at j2
    rw [e 0 (by omega) (by omega), e (494 + 3 * j) (by omega) (by omega), e (495 + 3 * j) (by omega) (by omega), e (496 + 3 * j) (by omega) (by omega)]
    exact w4 j j1 j2
  · rw [e 493 (by omega) (by omega)] at j2
    rw [e _ (by omega) (by omega), e _ (by omega) (by omega), e _ (by omega) (by omega), e _ (by omega) (by omega)]
    exact w5 i j i1 ij j2
  · rw [e 519 (by omega) (by omega), e 518 (by omega) (by omega)]
    by_cases q : P 518 = l
    · rw [q, el]; exact hp q.symm
    · rw [e _ (by omega) (by omega)]; exact w8
theorem zw_page_line {P : Int → Int} (hw : zw_page P) (hn : P 0 < 12) (hz : P (1 + P 0) = 0) : zw_page (zt_up P 0 (P 0 + 1)) := by
  obtain ⟨w1, w2, w3, w4, w5, w6, w7, w8⟩ := hw
  have e : ∀ j, j ≠ 0 → zt_up P 0 (P 0 + 1) j = P j := fun j j1 => zt_up_ne j1
  have e0 : zt_up P 0 (P 0 + 1) 0 = P 0 + 1 := zt_up_eq rfl
  refine ⟨by rw [e0]; omega, fun l' l1 l2 => ?_, by rw [e 493 (by omega)]; exact w3, fun j j1 j2 => ?_, fun i j i1 ij j2 => ?_, by rw [e 518 (by omega), e0]; omega, by rw [e 519 (by omega)]; exact w7, by rw [e 519 (by omega), e 518 (by omega), e _ (by omega)]; exact w8⟩
  · rw [e0] at l2
    rw [e _ (by omega)]
    by_cases q : l' = P 0
    · rw [q, hz]; omega
    · exact w2 l' l1 (by omega)
  · rw [e 493 (by omega)] at j2
    rw [e0, e (494 + 3 * j) (by omega), e (495 + 3 * j) (by omega), e (496 + 3 * j) (by omega)]
    have := w4 j j1 j2
    omega
  · rw [e 493 (by omega)] at j2
    rw [e _ (by omega), e _ (by omega), e _ (by omega), e _ (by omega)]
    exact w5 i j i1 ij j2
theorem zw_byte {c : Int} {q : zT4} (h : zw_text q) : zw_text (zt_byte c q).2 := by
  obtain ⟨P, B, o, n⟩ := q
  obtain ⟨hw, hz, hc, ho, hb, hn⟩ := id h
  dsimp only at hw hz hc ho hb hn
  have hw' := hw
  obtain ⟨w1, w2, w3, w4, w5, w6, w7⟩ := hw'
  unfold zt_byte
  dsimp only
  by_cases g1 : zf_sign c
  · rw [zt_if_t g1]
    by_cases g2 : P (P 0) = 40
    · rw [if_pos g2]; exact h
    · rw [if_neg g2]
      have l1 := w2 (P 0 - 1) (by omega) (by omega)
      rw [show 1 + (P 0 - 1) = P 0 by omega] at l1
      have key := zw_page_up (k := 13 + 40 * (P 0 - 1) + P (P 0)) (v := P (P 0) + 1) (l := P 0 - 1) hw (by omega) (by omega) (fun _ => by omega) (by omega) c
      rw [show 1 + (P 0 - 1) = P 0 by omega] at key
      have e0 : zt_up (zt_up P (13 + 40 * (P 0 - 1) + P (P 0)) c) (P 0) (P (P 0) + 1) 0 = P 0 := by rw [zt_up_ne (by omega), zt_up_ne (by omega)]
      refine ⟨key, fun l a1 a2 => ?_, ?_, ho, fun j a1 a2 => ?_, ?_⟩
      · dsimp only at a1 ⊢
        rw [e0] at a1
        rw [zt_up_ne (by omega), zt_up_ne (by omega)]
        exact hz l a1 a2
      · dsimp only
        rw [zt_up_ne (by omega), zt_up_ne (by omega), zt_up_ne (by omega), zt_up_ne (by omega)]
        exact hc
      · dsimp only at a2 ⊢
        rw [e0]
        exact hb j a1 a2
      · dsimp only
        rw [zt_up_ne (by omega), zt_up_ne (by omega)]
        exact hn
  · rw [zt_if_f g1]
    by_cases g3 : c = 10
    · rw [if_pos g3]
      by_cases g2 : P 0 = 12
      · rw [if_pos g2]; exact h
      · rw [if_neg g2]
        refine ⟨zw_page_line hw (by omega) (hz _ (Int.le_refl _) (by omega)), fun l a1 a2 => ?_, ?_, ho, fun j a1 a2 => ?_, ?_⟩
        · dsimp only at a1 ⊢
          rw [zt_up_eq rfl] at a1
          rw [zt_up_ne (by omega)]
          exact hz l (by omega) a2
        · dsimp only
          rw [zt_up_ne (by omega), zt_up_ne (by omega)]
          exact hc
        · dsimp only at a2 ⊢
          rw [zt_up_eq rfl]
          have := hb j a1 a2
          omega
        · dsimp only
          rw [zt_up_ne (by omega)]
          exact hn
    · rw [if_neg g3]
      by_cases g4 : c = 91
      · rw [if_pos g4]
        by_cases g2 : n = 8
        · rw [if_pos g2]; exact h
        · rw [if_neg g2]
          refine ⟨hw, hz, hc, by dsimp only; omega, fun j a1 a2 => ?_, by dsimp only; omega⟩
          dsimp only at a2 ⊢
          by_cases q : j = o
          · rw [zt_up_eq q]; omega
          · rw [zt_up_ne q]; exact hb j a1 (by omega)
      · rw [if_neg g4]
        by_cases g5 : c = 93
        · rw [if_pos g5]
          by_cases g2 : o = 0
          · rw [if_pos g2]; exact h
          · rw [if_neg g2]
            by_cases g6 : B (o - 1) < P 0 - 1 ∧ ¬ zt_ag P (B (o - 1)) (P 0 - 1)
            · rw [zt_if_t g6]
              have b1 := hb (o - 1) (by omega) (by omega)
              have pk := (zt_pos_ok (x := B (o - 1)) (y := P 0 - 1) w3.1).1
              obtain ⟨k, hk⟩ : ∃ k, k = zt_pos P (B (o - 1)) (P 0 - 1) := ⟨_, rfl⟩
              have key := zw_fins (v := 0) hw (show 0 ≤ B (o - 1) ∧ B (o - 1) < P 0 - 1 ∧ P 0 - 1 < P 0 by omega) (by omega) (by omega) g6.2
              rw [← hk] at pk key ⊢
              have low : ∀ j, j < 493 → zt_fins P (P 493) k (B (o - 1)) (P 0 - 1) 0 j = P j := fun j hj => by
                rw [zt_fins_at, if_neg (by omega), if_neg (by omega), if_neg (by omega), if_neg (by omega), if_neg (by omega)]
              have high : ∀ j, 518 ≤ j → zt_fins P (P 493) k (B (o - 1)) (P 0 - 1) 0 j = P j := fun j hj => by
                rw [zt_fins_at, if_neg (by omega), if_neg (by omega), if_neg (by omega), if_neg (by omega), if_neg (by omega)]
              refine ⟨key, fun l a1 a2 => ?_, ?_, by dsimp only; omega, fun j a1 a2 => ?_, ?_⟩
              · dsimp only at a1 ⊢
                rw [low 0 (by omega)] at a1
                rw [low _ (by omega)]
                exact hz l a1 a2
              · dsimp only
                rw [high 518 (by omega), high 519 (by omega)]
                exact hc
              · dsimp only at a2 ⊢
                rw [low 0 (by omega)]
                exact hb j a1 (by omega)
              · dsimp only
                rw [zt_fins_at, if_pos rfl]
                omega
            · rw [zt_if_f g6]; exact h
        · rw [if_neg g5]; exact h
theorem zw_zero : zw_text zt_zero := by
  have e : ∀ j, j ≠ 0 → zt_zero.1 j = 0 := fun j hj => if_neg hj
  have e0 : zt_zero.1 0 = 1 := (show (if (0 : Int) = 0 then (1 : Int) else 0) = 1 from if_pos rfl)
  refine ⟨⟨by rw [e0]; omega, fun l l1 l2 => by rw [e _ (by omega)]; omega, by rw [e _ (by omega)]; omega, fun k k1 k2 => ?_, fun j k j1 jk k2 => ?_, by rw [e 518 (by omega), e0]; omega, by rw [e 519 (by omega)]; omega, by rw [e 519 (by omega), e 518 (by omega), e _ (by omega)]; omega⟩, fun l l1 l2 => e _ (by rw [e0] at l1; omega), ⟨e _ (by omega), e _ (by omega)⟩, ?_, fun j j1 j2 => ?_, ?_⟩
  · rw [e 493 (by omega)] at k2; omega
  · rw [e 493 (by omega)] at k2; omega
  · show (0 : Int) ≤ 0 ∧ (0 : Int) ≤ 0 ∧ (0 : Int) ≤ 8
    omega
  · change j < 0 at j2; omega
  · rw [e 493 (by omega)]
    show (0 : Int) + 0 ≤ 0
    omega
theorem zw_iter {tp : Int → Int} : ∀ i : Nat, zw_text (zt_iter tp i)
  | 0 => zw_zero
  | i + 1 => zw_byte (zw_iter i)
/-! the class: the tape -/
def zs_ta (S : zS) (R : zI) (a : Int) : Prop := 0 < a ∧ (S a).1 = 9 ∧ R a 0 = a + 1 ∧ R a 1 = a + 2 ∧ S (a + 1) = (12, 400) ∧ S (a + 2) = (12, 8)
section ZTa
variable {d : Nat} {S : zS} {I J R : zI} {T : Int × Nat} {a b n v l f c m k x y r i o : Int} {P B : Int → Int}
theorem zx_Tappend (h : zs_ta S R a) (hz : 0 ≤ I a 2 ∧ I a 2 ≤ 400) : zG (d + 2) 92 [.inr (.inr a), .inl c] (S, I, R, T) = if I a 2 < 400 then some (1, (S, zi_up (zi_up I (a + 1) (I a 2) c) a 2 (I a 2 + 1), R, T)) else some (0, (S, I, R, T)) := by
  obtain ⟨h0, h1, h2, h3, h4, h5⟩ := h
  rw [zm_92]
  by_cases g : I a 2 < 400
  · ((try simp only [zbd_conv]); simp (disch := first | assumption | omega | trivial) only [↓reduceIte, zbd_some, eq_self, Int.reduceEq, Int.reduceLT, Int.reduceLE, and_self, or_true, true_or, or_false, false_or, if_pos, if_neg, if_true, if_false, true_and, and_true, not_true_eq_false, not_false_eq_true, false_and, and_false, Option.bind_some, zq_t, zq_f, zq0, zq1, zw_id, h1, h2, zx_put (show 0 < a + 1 by omega) h4, zk_pt_in, zwr, zu_ne])
  · ((try simp only [zbd_conv]); simp (disch := first | assumption | omega | trivial) only [↓reduceIte, zbd_some, eq_self, Int.reduceEq, Int.reduceLT, Int.reduceLE, and_self, or_true, true_or, or_false, false_or, if_pos, if_neg, if_true, if_false, true_and, and_true, not_true_eq_false, not_false_eq_true, false_and, and_false, Option.bind_some, zq_t, zq_f, zq0, zq1, zw_id, h1])
/-- the tape's own numbers while a text is read -/
def zv_tp (I : zI) (a : Int) (q : zT4) : Prop := I a 4 = q.2.2.1 ∧ I a 5 = q.2.2.2 ∧ ∀ j, 0 ≤ j → j < q.2.2.1 → I (a + 2) j = q.2.1 j
/-- what a reading may change -/
def zo_tp (I J : zI) (a f : Int) : Prop := (∀ x, x ≠ a → x ≠ a + 2 → (x < f ∨ f + 8 ≤ x) → J x = I x) ∧ ∀ j, j ≠ 3 → j ≠ 4 → j ≠ 5 → J a j = I a j
theorem zo_tp_trans {K : zI} (h1 : zo_tp I J a f) (h2 : zo_tp J K a f) : zo_tp I K a f := ⟨fun x a b c => (h2.1 x a b c).trans (h1.1 x a b c), fun j a b c => (h2.2 j a b c).trans (h1.2 j a b c)⟩
theorem zv_rep_app (hw : zw_page P) (h : zv_rep I f P) (hl : 0 ≤ l ∧ l < P 0) (hn : P (1 + l) < 40) : zv_rep (zi_up (zi_up I (f + 3) (l * 40 + P (1 + l)) c) (f + 2) l (P (1 + l) + 1)) f (zt_up (zt_up P (13 + 40 * l + P (1 + l)) c) (1 + l) (P (1 + l) + 1)) := by
  obtain ⟨w1, w2, w3, w4, w5, w6, w7⟩ := hw
  obtain ⟨h1, h2, h3, h4, h5, h6, h7⟩ := h
  have hl2 := w2 l hl.1 hl.2
  have e : ∀ j, j ≠ 1 + l → (j < 13 ∨ 493 ≤ j) → zt_up (zt_up P (13 + 40 * l + P (1 + l)) c) (1 + l) (P (1 + l) + 1) j = P j := fun j j1 j2 => by rw [zt_up_ne j1, zt_up_ne (by omega)]
  have el : zt_up (zt_up P (13 + 40 * l + P (1 + l)) c) (1 + l) (P (1 + l) + 1) (1 + l) = P (1 + l) + 1 := zt_up_eq rfl
  refine ⟨?_, fun l' l1 l2 => ?_, fun l' i l1 l2 i1 i2 => ?_, ?_, fun j j1 j2 => ?_, ?_, ?_⟩
  · rw [zu_ne (by omega), zu_ne (by omega), e 0 (by omega) (by omega)]; exact h1
  · rw [e 0 (by omega) (by omega)] at l2
    by_cases q : l' = l
    · rw [q, el, zu_eq ⟨rfl, rfl⟩]
    · rw [zu_ne (by omega), zu_ne (by omega), e _ (by omega) (by omega)]; exact h2 l' l1 l2
  · rw [e 0 (by omega) (by omega)] at l2
    have hl3 := w2 l' l1 l2
    have i40 : i < 40 := by
      by_cases q : l' = l
      · rw [q, el] at i2; omega
      · rw [e _ (by omega) (by omega)] at i2; omega
    rw [zu_ne (by omega), zt_up_ne (by omega)]
    by_cases q : l' = l ∧ i = P (1 + l)
    · obtain ⟨q1, q2⟩ := q
      rw [zu_eq ⟨rfl, by rw [q1, q2]⟩, zt_up_eq (by rw [q1, q2])]
    · rw [zu_ne (by omega), zt_up_ne (by omega)]
      refine h3 l' i l1 l2 i1 ?_
      by_cases q1 : l' = l
      · rw [q1, el] at i2; rw [q1]; omega
      · rw [e _ (by omega) (by omega)] at i2; exact i2
  · rw [zu_ne (by omega), zu_ne (by omega), e _ (by omega) (by omega)]; exact h4
  · rw [e 493 (by omega) (by omega)] at j2
    rw [zu_ne (by omega), zu_ne (by omega), zu_ne (by omega), zu_ne (by omega), zu_ne (by omega), zu_ne (by omega), e _ (by omega) (by omega), e _ (by omega) (by omega), e _ (by omega) (by omega)]
    exact h5 j j1 j2
  · rw [zu_ne (by omega), zu_ne (by omega), e _ (by omega) (by omega)]; exact h6
  · rw [zu_ne (by omega), zu_ne (by omega), e _ (by omega) (by omega)]; exact h7
theorem zv_rep_line (hw : zw_page P) (h : zv_rep I f P) (hn : P 0 < 12) (hz : P (1 + P 0) = 0) : zv_rep (zi_up (zi_up I (f + 2) (P 0) 0) (f + 1) 0 (P 0 + 1)) f (zt_up P 0 (P 0 + 1)) := by
  obtain ⟨w1, w2, w3, w4, w5, w6, w7⟩ := hw
  obtain ⟨h1, h2, h3, h4, h5, h6, h7⟩ := h
  have e : ∀ j, j ≠ 0 → zt_up P 0 (P 0 + 1) j = P j := fun j j1 => zt_up_ne j1
  have e0 : zt_up P 0 (P 0 + 1) 0 = P 0 + 1 := zt_up_eq rfl
  refine ⟨?_, fun l' l1 l2 => ?_, fun l' i l1 l2 i1 i2 => ?_, ?_, fun j j1 j2 => ?_, ?_, ?_⟩
  · rw [e0, zu_eq ⟨rfl, rfl⟩]
  · rw [e0] at l2
    rw [zu_ne (by omega), e _ (by omega)]
    by_cases q : l' = P 0
    · rw [zu_eq ⟨rfl, q⟩, q, hz]
    · rw [zu_ne (by omega)]; exact h2 l' l1 (by omega)
  · rw [e0] at l2
    rw [e _ (by omega)] at i2
    rw [zu_ne (by omega), zu_ne (by omega), e _ (by omega)]
    refine h3 l' i l1 ?_ i1 i2
    by_cases q : l' = P 0
    · rw [q, hz] at i2; omega
    · omega
  · rw [zu_ne (by omega), zu_ne (by omega), e _ (by omega)]; exact h4
  · rw [e 493 (by omega)] at j2
    rw [zu_ne (by omega), zu_ne (by omega), zu_ne (by omega), zu_ne (by omega), zu_ne (by omega), zu_ne (by omega), e _ (by omega), e _ (by omega), e _ (by omega)]
    exact h5 j j1 j2
  · rw [zu_ne (by omega), zu_ne (by omega), e _ (by omega)]; exact h6
  · rw [zu_ne (by omega), zu_ne (by omega), e _ (by omega)]; exact h7
theorem zx_readByte (h : zs_ta S R a) (g : zs_fr S R f) (haf : a + 3 ≤ f ∨ f + 8 ≤ a) {q : zT4} (hq : zw_text q) (hr : zv_rep I f q.1) (ht : zv_tp I a q) : ∃ J, zG (d + 6) 94 [.inr (.inr a), .inl c, .inr (.inr f)] (S, I, R, T) = some ((zt_byte c q).1, (S, J, R, T)) ∧ zo_tp I J a f ∧ zv_rep J f (zt_byte c q).2.1 ∧ zv_tp J a (zt_byte c q).2 := by
  obtain ⟨P, B, o, n⟩ := q
  obtain ⟨h0, h1, h2, h3, h4, h5⟩ := id h
  obtain ⟨g0, g1, g2, g3, g4, g5⟩ := id g
  obtain ⟨hw, hz, hc, ho, hb, hn⟩ := id hq
  dsimp only at hw hz hc ho hb hn hr
  obtain ⟨w1, w2, w3, w4, w5, w6, w7⟩ := id hw
  obtain ⟨i1, i2, i3, i4, i5, i6, i7⟩ := id hr
  obtain ⟨t1, t2, t3⟩ := id ht
  dsimp only at t1 t2 t3
  have lh := g4.2.1
  have fh := g5.2.1
  have same : zo_tp I I a f := ⟨fun _ _ _ _ => rfl, fun _ _ _ _ => rfl⟩
  have l1 := w2 (P 0 - 1) (by omega) (by omega)
  rw [show 1 + (P 0 - 1) = P 0 by omega] at l1
  have i2l := i2 (P 0 - 1) (by omega) (by omega)
  rw [show 1 + (P 0 - 1) = P 0 by omega] at i2l
  rw [zm_94]
  unfold zt_byte
  dsimp only
  by_cases c10 : c = 10
  · have ns : ¬ zf_sign c := by unfold zf_sign; omega
    rw [zt_if_f ns, if_pos c10]
    by_cases g2' : P 0 = 12
    · have e : zG (d + 5) 95 [.inr (.inr a), .inr (.inr (f + 1))] (S, I, R, T) = some (3, (S, I, R, T)) := by
        rw [zm_95]
        ((try simp only [zbd_conv]); simp (disch := first | assumption | omega | trivial) only [↓reduceIte, zbd_some, eq_self, Int.reduceEq, Int.reduceLT, Int.reduceLE, and_self, or_true, true_or, or_false, false_or, if_pos, if_neg, if_true, if_false, true_and, and_true, not_true_eq_false, not_false_eq_true, false_and, and_false, Option.bind_some, zq_t, zq_f, zq0, zq1, zw_id, lh, i1])
      ((try simp only [zbd_conv]); simp (disch := first | assumption | omega | trivial) only [↓reduceIte, zbd_some, eq_self, Int.reduceEq, Int.reduceLT, Int.reduceLE, and_self, or_true, true_or, or_false, false_or, if_pos, if_neg, if_true, if_false, true_and, and_true, not_true_eq_false, not_false_eq_true, false_and, and_false, Option.bind_some, zq_t, zq_f, zq0, zq1, zw_id, g1, g2, h1, e])
      exact ⟨I, rfl, same, hr, ht⟩
    · have e : zG (d + 5) 95 [.inr (.inr a), .inr (.inr (f + 1))] (S, I, R, T) = some (0, (S, zi_up (zi_up I (f + 1 + 1) (P 0) 0) (f + 1) 0 (P 0 + 1), R, T)) := by
        rw [zm_95]
        ((try simp only [zbd_conv]); simp (disch := first | assumption | omega | trivial) only [↓reduceIte, zbd_some, eq_self, Int.reduceEq, Int.reduceLT, Int.reduceLE, and_self, or_true, true_or, or_false, false_or, if_pos, if_neg, if_true, if_false, true_and, and_true, not_true_eq_false, not_false_eq_true, false_and, and_false, Option.bind_some, zq_t, zq_f, zq0, zq1, zw_id, lh, i1, zx_addLine g4 i1 (show 0 ≤ P 0 ∧ P 0 < 12 by omega)])
      ((try simp only [zbd_conv]); simp (disch := first | assumption | omega | trivial) only [↓reduceIte, zbd_some, eq_self, Int.reduceEq, Int.reduceLT, Int.reduceLE, and_self, or_true, true_or, or_false, false_or, if_pos, if_neg, if_true, if_false, true_and, and_true, not_true_eq_false, not_false_eq_true, false_and, and_false, Option.bind_some, zq_t, zq_f, zq0, zq1, zw_id, g1, g2, h1, e])
      rw [show f + 1 + 1 = f + 2 by omega]
      refine ⟨_, rfl, ⟨fun x x1 x2 x3 => ?_, fun j j1 j2 j3 => ?_⟩, zv_rep_line hw hr (by omega) (hz _ (Int.le_refl _) (by omega)), ?_, ?_, fun j j1 j2 => ?_⟩
      · rw [zu_off (by omega), zu_off (by omega)]
      · rw [zu_ne (by omega), zu_ne (by omega)]
      · rw [zu_ne (by omega), zu_ne (by omega)]; exact t1
      · rw [zu_ne (by omega), zu_ne (by omega)]; exact t2
      · rw [zu_ne (by omega), zu_ne (by omega)]; exact t3 j j1 j2
  · by_cases c91 : c = 91
    · have ns : ¬ zf_sign c := by unfold zf_sign; omega
      rw [zt_if_f ns, if_neg c10, if_pos c91]
      by_cases g2' : n = 8
      · have e : zG (d + 5) 96 [.inr (.inr a), .inl (P 0 - 1)] (S, I, R, T) = some (4, (S, I, R, T)) := by
          rw [zm_96]
          ((try simp only [zbd_conv]); simp (disch := first | assumption | omega | trivial) only [↓reduceIte, zbd_some, eq_self, Int.reduceEq, Int.reduceLT, Int.reduceLE, and_self, or_true, true_or, or_false, false_or, if_pos, if_neg, if_true, if_false, true_and, and_true, not_true_eq_false, not_false_eq_true, false_and, and_false, Option.bind_some, zq_t, zq_f, zq0, zq1, zw_id, h1, t2])
        ((try simp only [zbd_conv]); simp (disch := first | assumption | omega | trivial) only [↓reduceIte, zbd_some, eq_self, Int.reduceEq, Int.reduceLT, Int.reduceLE, and_self, or_true, true_or, or_false, false_or, if_pos, if_neg, if_true, if_false, true_and, and_true, not_true_eq_false, not_false_eq_true, false_and, and_false, Option.bind_some, zq_t, zq_f, zq0, zq1, zw_id, g1, g2, lh, i1, h1, e])
        exact ⟨I, rfl, same, hr, ht⟩
      · have e : zG (d + 5) 96 [.inr (.inr a), .inl (P 0 - 1)] (S, I, R, T) = some (0, (S, zi_up (zi_up (zi_up I (a + 2) o (P 0 - 1)) a 4 (o + 1)) a 5 (n + 1), R, T)) := by
          rw [zm_96]
          ((try simp only [zbd_conv]); simp (disch := first | assumption | omega | trivial) only [↓reduceIte, zbd_some, eq_self, Int.reduceEq, Int.reduceLT, Int.reduceLE, and_self, or_true, true_or, or_false, false_or, if_pos, if_neg, if_true, if_false, true_and, and_true, not_true_eq_false, not_false_eq_true, false_and, and_false, Option.bind_some, zq_t, zq_f, zq0, zq1, zw_id, h1, h3, t1, t2, zx_put (show 0 < a + 2 by omega) h5, zk_pt_in, zwr, zu_ne])
        ((try simp only [zbd_conv]); simp (disch := first | assumption | omega | trivial) only [↓reduceIte, zbd_some, eq_self, Int.reduceEq, Int.reduceLT, Int.reduceLE, and_self, or_true, true_or, or_false, false_or, if_pos, if_neg, if_true, if_false, true_and, and_true, not_true_eq_false, not_false_eq_true, false_and, and_false, Option.bind_some, zq_t, zq_f, zq0, zq1, zw_id, g1, g2, lh, i1, h1, e])
        refine ⟨_, rfl, ⟨fun x x1 x2 x3 => ?_, fun j j1 j2 j3 => ?_⟩, zv_rep_congr hr (fun x x1 x2 => ?_), ?_, ?_, fun j j1 j2 => ?_⟩
        · rw [zu_off (by omega), zu_off (by omega), zu_off (by omega)]
        · rw [zu_ne (by omega), zu_ne (by omega), zu_ne (by omega)]
        · rw [zu_off (by omega), zu_off (by omega), zu_off (by omega)]
        · rw [zu_ne (by omega), zu_eq ⟨rfl, rfl⟩]
        · rw [zu_eq ⟨rfl, rfl⟩]
        · dsimp only at j2 ⊢
          rw [zu_ne (by omega), zu_ne (by omega)]
          by_cases jo : j = o
          · rw [zu_eq ⟨rfl, jo⟩, zt_up_eq jo]
          · rw [zu_ne (by omega), zt_up_ne jo]; exact t3 j j1 (by omega)
    · by_cases c93 : c = 93
      · have ns : ¬ zf_sign c := by unfold zf_sign; omega
        rw [zt_if_f ns, if_neg c10, if_neg c91, if_pos c93]
        by_cases g2' : o = 0
        · have e : zG (d + 5) 97 [.inr (.inr a), .inr (.inr (f + 4)), .inl (P 0 - 1)] (S, I, R, T) = some (5, (S, I, R, T)) := by
            rw [zm_97]
            ((try simp only [zbd_conv]); simp (disch := first | assumption | omega | trivial) only [↓reduceIte, zbd_some, eq_self, Int.reduceEq, Int.reduceLT, Int.reduceLE, and_self, or_true, true_or, or_false, false_or, if_pos, if_neg, if_true, if_false, true_and, and_true, not_true_eq_false, not_false_eq_true, false_and, and_false, Option.bind_some, zq_t, zq_f, zq0, zq1, zw_id, h1, t1])
          ((try simp only [zbd_conv]); simp (disch := first | assumption | omega | trivial) only [↓reduceIte, zbd_some, eq_self, Int.reduceEq, Int.reduceLT, Int.reduceLE, and_self, or_true, true_or, or_false, false_or, if_pos, if_neg, if_true, if_false, true_and, and_true, not_true_eq_false, not_false_eq_true, false_and, and_false, Option.bind_some, zq_t, zq_f, zq0, zq1, zw_id, g1, g2, g3, lh, i1, h1, e])
          exact ⟨I, rfl, same, hr, ht⟩
        · rw [if_neg g2']
          have t3' := t3 (o - 1) (by omega) (by omega)
          have b1 := hb (o - 1) (by omega) (by omega)
          by_cases g6 : B (o - 1) < P 0 - 1 ∧ ¬ zt_ag P (B (o - 1)) (P 0 - 1)
          · rw [zt_if_t g6]
            have ncl : ¬ zf_clash I (f + 4) (B (o - 1)) (P 0 - 1) := fun z => g6.2 ((zt_ag_iff hr).mp z)
            have c0 : zi_up I a 4 (o - 1) (f + 4) 0 = P 493 := by rw [zu_ne (by omega), i4]
            obtain ⟨k, k1, k2⟩ := zx_add (d := d + 1) (I := zi_up I a 4 (o - 1)) (T := T) (x := B (o - 1)) (y := P 0 - 1) g5 c0 (show 0 ≤ P 493 ∧ P 493 < 8 by omega)
            have hr' : zv_rep (zi_up I a 4 (o - 1)) f P := zv_rep_congr hr (fun x x1 x2 => zu_off (by omega))
            have kk : zf_pos (zi_up I a 4 (o - 1) (f + 5)) (zi_up I a 4 (o - 1) (f + 6)) (P 493) (B (o - 1)) (P 0 - 1) k := by
              rw [show f + 4 + 1 = f + 5 by omega, show f + 4 + 2 = f + 6 by omega] at k1
              exact k1
            obtain ⟨z1, z2⟩ := zv_fins (v := 0) hw hr' kk (by omega)
            have e : zG (d + 5) 97 [.inr (.inr a), .inr (.inr (f + 4)), .inl (P 0 - 1)] (S, I, R, T) = some (0, (S, zp_fins (zi_up I a 4 (o - 1)) (f + 4) (P 493) k (B (o - 1)) (P 0 - 1) 0, R, T)) := by
              rw [zm_97]
              ((try simp only [zbd_conv]); simp (disch := first | assumption | omega | trivial) only [↓reduceIte, zbd_some, eq_self, Int.reduceEq, Int.reduceLT, Int.reduceLE, and_self, or_true, true_or, or_false, false_or, if_pos, if_neg, if_true, if_false, true_and, and_true, not_true_eq_false, not_false_eq_true, false_and, and_false, Option.bind_some, zq_t, zq_f, zq0, zq1, zw_id, h1, h3, t1, t3', zx_pick (show 0 < a + 2 by omega) h5, zk_pk_in, fh, zx_clash g5, zwr, k2])
            ((try simp only [zbd_conv]); simp (disch := first | assumption | omega | trivial) only [↓reduceIte, zbd_some, eq_self, Int.reduceEq, Int.reduceLT, Int.reduceLE, and_self, or_true, true_or, or_false, false_or, if_pos, if_neg, if_true, if_false, true_and, and_true, not_true_eq_false, not_false_eq_true, false_and, and_false, Option.bind_some, zq_t, zq_f, zq0, zq1, zw_id, g1, g2, g3, lh, i1, h1, e])
            have off : ∀ q j, (q < f + 4 ∨ f + 7 < q) → zp_fins (zi_up I a 4 (o - 1)) (f + 4) (P 493) k (B (o - 1)) (P 0 - 1) 0 q j = zi_up I a 4 (o - 1) q j := fun q j hq => by
              unfold zp_fins
              rw [if_neg (by omega), if_neg (by omega), if_neg (by omega), if_neg (by omega), if_neg (by omega)]
            refine ⟨_, rfl, ⟨fun x x1 x2 x3 => ?_, fun j j1 j2 j3 => ?_⟩, z2, ?_, ?_, fun j j1 j2 => ?_⟩
            · funext j
              rw [off _ _ (by omega), zu_ne (by omega)]
            · rw [off _ _ (by omega), zu_ne (by omega)]
            · rw [off _ _ (by omega), zu_eq ⟨rfl, rfl⟩]
            · rw [off _ _ (by omega), zu_ne (by omega)]; exact t2
            · dsimp only at j2 ⊢
              rw [off _ _ (by omega), zu_ne (by omega)]; exact t3 j j1 (by omega)
          · rw [zt_if_f g6]
            have e : zG (d + 5) 97 [.inr (.inr a), .inr (.inr (f + 4)), .inl (P 0 - 1)] (S, I, R, T) = some (5, (S, I, R, T)) := by
              rw [zm_97]
              by_cases g7 : B (o - 1) < P 0 - 1
              · have cl : zf_clash I (f + 4) (B (o - 1)) (P 0 - 1) := (zt_ag_iff hr).mpr (Classical.byContradiction fun z => g6 ⟨g7, z⟩)
                ((try simp only [zbd_conv]); simp (disch := first | assumption | omega | trivial) only [↓reduceIte, zbd_some, eq_self, Int.reduceEq, Int.reduceLT, Int.reduceLE, and_self, or_true, true_or, or_false, false_or, if_pos, if_neg, if_true, if_false, true_and, and_true, not_true_eq_false, not_false_eq_true, false_and, and_false, Option.bind_some, zq_t, zq_f, zq0, zq1, zw_id, h1, h3, t1, t3', zx_pick (show 0 < a + 2 by omega) h5, zk_pk_in, fh, zx_clash g5])
              · ((try simp only [zbd_conv]); simp (disch := first | assumption | omega | trivial) only [↓reduceIte, zbd_some, eq_self, Int.reduceEq, Int.reduceLT, Int.reduceLE, and_self, or_true, true_or, or_false, false_or, if_pos, if_neg, if_true, if_false, true_and, and_true, not_true_eq_false, not_false_eq_true, false_and, and_false, Option.bind_some, zq_t, zq_f, zq0, zq1, zw_id, h1, h3, t1, t3', zx_pick (show 0 < a + 2 by omega) h5, zk_pk_in])
            ((try simp only [zbd_conv]); simp (disch := first | assumption | omega | trivial) only [↓reduceIte, zbd_some, eq_self, Int.reduceEq, Int.reduceLT, Int.reduceLE, and_self, or_true, true_or, or_false, false_or, if_pos, if_neg, if_true, if_false, true_and, and_true, not_true_eq_false, not_false_eq_true, false_and, and_false, Option.bind_some, zq_t, zq_f, zq0, zq1, zw_id, g1, g2, g3, lh, i1, h1, e])
            exact ⟨I, rfl, same, hr, ht⟩
      · by_cases g1' : zf_sign c
        · rw [zt_if_t g1']
          by_cases g2' : P (P 0) = 40
          · rw [if_pos g2']
            ((try simp only [zbd_conv]); simp (disch := first | assumption | omega | trivial) only [↓reduceIte, zbd_some, eq_self, Int.reduceEq, Int.reduceLT, Int.reduceLE, and_self, or_true, true_or, or_false, false_or, if_pos, if_neg, if_true, if_false, true_and, and_true, not_true_eq_false, not_false_eq_true, false_and, and_false, Option.bind_some, zq_t, zq_f, zq0, zq1, zw_id, g1, g2, lh, i1, zx_isSign, zx_length g4, zk_pk_in, show f + 1 + 1 = f + 2 by omega, i2l])
            exact ⟨I, rfl, same, hr, ht⟩
          · rw [if_neg g2']
            have i2l' : I (f + 1 + 1) (P 0 - 1) = P (P 0) := by rw [show f + 1 + 1 = f + 2 by omega]; exact i2l
            have ap := zx_append (d := d + 2) (I := I) (T := T) (c := c) g4 (show 0 ≤ P 0 - 1 ∧ P 0 - 1 < 12 by omega) i2l' (show 0 ≤ P (P 0) ∧ P (P 0) < 40 by omega)
            ((try simp only [zbd_conv]); simp (disch := first | assumption | omega | trivial) only [↓reduceIte, zbd_some, eq_self, Int.reduceEq, Int.reduceLT, Int.reduceLE, and_self, or_true, true_or, or_false, false_or, if_pos, if_neg, if_true, if_false, true_and, and_true, not_true_eq_false, not_false_eq_true, false_and, and_false, Option.bind_some, zq_t, zq_f, zq0, zq1, zw_id, g1, g2, lh, i1, zx_isSign, zx_length g4, zk_pk_in, i2l', ap])
            rw [show f + 1 + 1 = f + 2 by omega, show f + 1 + 2 = f + 3 by omega]
            have rp := zv_rep_app (c := c) (l := P 0 - 1) hw hr (by omega) (by rw [show 1 + (P 0 - 1) = P 0 by omega]; omega)
            rw [show 1 + (P 0 - 1) = P 0 by omega] at rp
            refine ⟨_, rfl, ⟨fun x x1 x2 x3 => ?_, fun j j1 j2 j3 => ?_⟩, rp, ?_, ?_, fun j j1 j2 => ?_⟩
            · rw [zu_off (by omega), zu_off (by omega)]
            · rw [zu_ne (by omega), zu_ne (by omega)]
            · rw [zu_ne (by omega), zu_ne (by omega)]; exact t1
            · rw [zu_ne (by omega), zu_ne (by omega)]; exact t2
            · rw [zu_ne (by omega), zu_ne (by omega)]; exact t3 j j1 j2
        · rw [zt_if_f g1', if_neg c10, if_neg c91, if_neg c93]
          ((try simp only [zbd_conv]); simp (disch := first | assumption | omega | trivial) only [↓reduceIte, zbd_some, eq_self, Int.reduceEq, Int.reduceLT, Int.reduceLE, and_self, or_true, true_or, or_false, false_or, if_pos, if_neg, if_true, if_false, true_and, and_true, not_true_eq_false, not_false_eq_true, false_and, and_false, Option.bind_some, zq_t, zq_f, zq0, zq1, zw_id, g1, g2, zx_isSign])
          exact ⟨I, rfl, same, hr, ht⟩
theorem zx_readInto (h : zs_ta S R a) (g : zs_fr S R f) (haf : a + 3 ≤ f ∨ f + 8 ≤ a) (hz : 0 ≤ I a 2 ∧ I a 2 ≤ 400) : ∃ J v, zG (d + 7) 93 [.inr (.inr a), .inr (.inr f)] (S, I, R, T) = some (v, (S, J, R, T)) ∧ zo_tp I J a f ∧ zt_res (I (a + 1)) (I a 2) v (J a 3) ∧ (v = 0 → zv_rep J f (zt_iter (I (a + 1)) (I a 2).toNat).1) := by
  obtain ⟨h0, h1, h2, h3, h4, h5⟩ := id h
  have g1 := g.2.1
  rw [zm_93]
  have key : ∀ (u : Nat) (k : Nat) (M : zI) (w : Nat), (u : Int) + k = I a 2 → u < w → zo_tp I M a f → (∀ j : Nat, j < k → zt_flt (I (a + 1)) j = 0) → zv_rep M f (zt_iter (I (a + 1)) k).1 → zv_tp M a (zt_iter (I (a + 1)) k) → ∃ J v, zi_run zt_93 (zG (d + 6)) w 16 [some (.inr (.inr a)), some (.inr (.inr f)), some (.inl (k : Int)), none] [] (S, M, R, T) = some (v, (S, J, R, T)) ∧ zo_tp I J a f ∧ zt_res (I (a + 1)) (I a 2) v (J a 3) ∧ (v = 0 → zv_rep J f (zt_iter (I (a + 1)) (I a 2).toNat).1) := by
    intro u
    induction u with
    | zero =>
      intro k M w k1 k2 ho hp hr ht
      obtain ⟨w, rfl⟩ : ∃ w', w = w' + 1 := ⟨w - 1, by omega⟩
      have m2 : M a 2 = I a 2 := ho.2 2 (by omega) (by omega) (by omega)
      have kk : (k : Int) = I a 2 := by omega
      have kn : (I a 2).toNat = k := by omega
      rw [zk_93_16]
      have tail : zo_tp I (zi_up M a 3 (I a 2)) a f := ⟨fun x x1 x2 x3 => by rw [zu_off (by omega)]; exact ho.1 x x1 x2 x3, fun j j1 j2 j3 => by rw [zu_ne (by omega)]; exact ho.2 j j1 j2 j3⟩
      have m4 : zi_up M a 3 (I a 2) a 4 = (zt_iter (I (a + 1)) k).2.2.1 := by rw [zu_ne (by omega)]; exact ht.1
      by_cases g0 : 0 < (zt_iter (I (a + 1)) k).2.2.1
      · ((try simp only [zbd_conv]); simp (disch := first | assumption | omega | trivial) only [↓reduceIte, zbd_some, eq_self, Int.reduceEq, Int.reduceLT, Int.reduceLE, and_self, or_true, true_or, or_false, false_or, if_pos, if_neg, if_true, if_false, true_and, and_true, not_true_eq_false, not_false_eq_true, false_and, and_false, Option.bind_some, zq_t, zq_f, zq0, zq1, zw_id, h1, m2, zwr, m4])
        refine ⟨_, _, rfl, tail, Or.inr ⟨fun j j1 => hp j (by omega), zu_eq ⟨rfl, rfl⟩, ?_⟩, fun q => absurd q (by omega)⟩
        rw [kn, if_pos g0]
      · ((try simp only [zbd_conv]); simp (disch := first | assumption | omega | trivial) only [↓reduceIte, zbd_some, eq_self, Int.reduceEq, Int.reduceLT, Int.reduceLE, and_self, or_true, true_or, or_false, false_or, if_pos, if_neg, if_true, if_false, true_and, and_true, not_true_eq_false, not_false_eq_true, false_and, and_false, Option.bind_some, zq_t, zq_f, zq0, zq1, zw_id, h1, m2, zwr, m4])
        refine ⟨_, _, rfl, tail, Or.inr ⟨fun j j1 => hp j (by omega), zu_eq ⟨rfl, rfl⟩, ?_⟩, fun _ => ?_⟩
        · rw [kn, if_neg g0]
        · rw [kn]
          exact zv_rep_congr hr (fun x x1 x2 => zu_off (by omega))
    | succ u ih =>
      intro k M w k1 k2 ho hp hr ht
      obtain ⟨w, rfl⟩ : ∃ w', w = w' + 1 := ⟨w - 1, by omega⟩
      have m2 : M a 2 = I a 2 := ho.2 2 (by omega) (by omega) (by omega)
      have mt : M (a + 1) = I (a + 1) := ho.1 (a + 1) (by omega) (by omega) (by omega)
      obtain ⟨J, e1, e2, e3, e4⟩ := zx_readByte (d := d) (I := M) (T := T) (c := I (a + 1) k) h g haf (zw_iter k) hr ht
      have ho2 := zo_tp_trans ho e2
      rw [zk_93_16]
      by_cases g0 : zt_flt (I (a + 1)) k = 0
      · have g0' : (zt_byte (I (a + 1) k) (zt_iter (I (a + 1)) k)).1 = 0 := g0
        ((try simp only [zbd_conv]); simp (disch := first | assumption | omega | trivial) only [↓reduceIte, zbd_some, eq_self, Int.reduceEq, Int.reduceLT, Int.reduceLE, and_self, or_true, true_or, or_false, false_or, if_pos, if_neg, if_true, if_false, true_and, and_true, not_true_eq_false, not_false_eq_true, false_and, and_false, Option.bind_some, zq_t, zq_f, zq0, zq1, zw_id, h1, h2, m2, zx_pick (show 0 < a + 1 by omega) h4, zk_pk_in, mt, e1, g0'])
        have := ih (k + 1) J w (by omega) (by omega) ho2 (fun j j1 => by
          by_cases hj : j = k
          · rw [hj]; exact g0
          · exact hp j (by omega)) e3 e4
        rw [show ((k + 1 : Nat) : Int) = (k : Int) + 1 by omega] at this
        exact this
      · have g0' : ¬ (zt_byte (I (a + 1) k) (zt_iter (I (a + 1)) k)).1 = 0 := g0
        ((try simp only [zbd_conv]); simp (disch := first | assumption | omega | trivial) only [↓reduceIte, zbd_some, eq_self, Int.reduceEq, Int.reduceLT, Int.reduceLE, and_self, or_true, true_or, or_false, false_or, if_pos, if_neg, if_true, if_false, true_and, and_true, not_true_eq_false, not_false_eq_true, false_and, and_false, Option.bind_some, zq_t, zq_f, zq0, zq1, zw_id, h1, h2, m2, zx_pick (show 0 < a + 1 by omega) h4, zk_pk_in, mt, e1, g0', zwr])
        refine ⟨_, _, rfl, ⟨fun x x1 x2 x3 => by rw [zu_off (by omega)]; exact ho2.1 x x1 x2 x3, fun j j1 j2 j3 => by rw [zu_ne (by omega)]; exact ho2.2 j j1 j2 j3⟩, Or.inl ⟨k, by omega, hp, g0, rfl, zu_eq ⟨rfl, rfl⟩⟩, fun q => absurd q g0⟩
  have fc := zx_FrClear (d := d + 3) (I := I) (T := T) g
  ((try simp only [zbd_conv]); simp (disch := first | assumption | omega | trivial) only [↓reduceIte, zbd_some, eq_self, Int.reduceEq, Int.reduceLT, Int.reduceLE, and_self, or_true, true_or, or_false, false_or, if_pos, if_neg, if_true, if_false, true_and, and_true, not_true_eq_false, not_false_eq_true, false_and, and_false, Option.bind_some, zq_t, zq_f, zq0, zq1, zw_id, g1, h1, fc, zwr])
  obtain ⟨M, hM⟩ : ∃ M, M = zi_up (zi_up (zp_fcl I f) a 4 0) a 5 0 := ⟨_, rfl⟩
  rw [← hM]
  have mo : ∀ q j, q ≠ a → (q < f ∨ f + 8 ≤ q) → M q j = I q j := fun q j q1 q2 => by
    rw [hM, zu_ne (by omega), zu_ne (by omega)]
    unfold zp_fcl
    rw [zu_ne (by omega), zu_ne (by omega), zu_ne (by omega), zu_ne (by omega), zu_ne (by omega)]
  have ma : ∀ j, j ≠ 4 → j ≠ 5 → M a j = I a j := fun j j1 j2 => by
    rw [hM, zu_ne (by omega), zu_ne (by omega)]
    unfold zp_fcl
    rw [zu_ne (by omega), zu_ne (by omega), zu_ne (by omega), zu_ne (by omega), zu_ne (by omega)]
  have mf : ∀ q j, f ≤ q → q < f + 8 → M q j = zp_fcl I f q j := fun q j q1 q2 => by
    rw [hM, zu_ne (by omega), zu_ne (by omega)]
  have z0 : ∀ j, j ≠ 0 → (zt_iter (I (a + 1)) 0).1 j = 0 := fun j hj => if_neg hj
  have z1 : (zt_iter (I (a + 1)) 0).1 0 = 1 := (show (if (0 : Int) = 0 then (1 : Int) else 0) = 1 from if_pos rfl)
  refine key (I a 2).toNat 0 M 1019999 (by omega) (by omega) ⟨fun x x1 x2 x3 => funext fun j => mo x j x1 x3, fun j j1 j2 j3 => ma j j2 j3⟩ (fun j j1 => absurd j1 (by omega)) ⟨?_, fun l l1 l2 => ?_, fun l i l1 l2 i1 i2 => ?_, ?_, fun k k1 k2 => ?_, ?_, ?_⟩ ⟨?_, ?_, fun j j1 j2 => ?_⟩
  · rw [mf _ _ (by omega) (by omega), z1]
    unfold zp_fcl
    rw [zu_ne (by omega), zu_ne (by omega), zu_ne (by omega), zu_ne (by omega), zu_eq ⟨rfl, rfl⟩]
  · rw [z1] at l2
    rw [mf _ _ (by omega) (by omega), z0 _ (by omega)]
    unfold zp_fcl
    rw [zu_ne (by omega), zu_ne (by omega), zu_ne (by omega), zu_eq ⟨by omega, by omega⟩]
  · rw [z0 _ (by omega)] at i2; omega
  · rw [mf _ _ (by omega) (by omega), z0 _ (by omega)]
    unfold zp_fcl
    rw [zu_ne (by omega), zu_ne (by omega), zu_eq ⟨rfl, rfl⟩]
  · rw [z0 _ (by omega)] at k2; omega
  · rw [mf _ _ (by omega) (by omega), z0 _ (by omega)]
    unfold zp_fcl
    rw [zu_ne (by omega), zu_eq ⟨rfl, rfl⟩]
  · rw [mf _ _ (by omega) (by omega), z0 _ (by omega)]
    unfold zp_fcl
    rw [zu_eq ⟨rfl, rfl⟩]
  · rw [hM, zu_ne (by omega), zu_eq ⟨rfl, rfl⟩]; rfl
  · rw [hM, zu_eq ⟨rfl, rfl⟩]; rfl
  · change j < 0 at j2; omega
end ZTa
