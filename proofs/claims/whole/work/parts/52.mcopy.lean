/-! the reference: pages are copied; what is comes behind those that are done; room for signs -/
section ZMc
variable {d : Nat} {S : zS} {I J R : zI} {T : Int × Nat} {a b n v l f c k x y z r i p q o w np nq len : Int} {P Q g : Int → Int}
theorem zi_cpy_at2 {j z s : Int} : zi_cpy I p q s w n z j = if z = q ∧ w ≤ j ∧ j < w + n then I p (s + (j - w)) else I z j := rfl
theorem zy_copies (hp : S p = (12, np)) (hq : S q = (12, nq)) (hpq : p ≠ q) (ho : 0 ≤ o ∧ o + 520 ≤ np ∧ np ≤ 100000) (hw : 0 ≤ w ∧ w + 520 ≤ nq ∧ nq ≤ 100000) : zG (d + 1) 212 [.inr (.inr p), .inl o, .inr (.inr q), .inl w] (S, I, R, T) = some (0, (S, zi_cpy I p q o w 520, R, T)) := by
  rw [zm_212]
  have key : ∀ (u : Nat) (k : Int) (w' : Nat), (u : Int) + k = 520 → 0 ≤ k → u < w' → zi_run zt_212 (zG d) w' 3 [some (.inr (.inr p)), some (.inl o), some (.inr (.inr q)), some (.inl w), some (.inl k)] [] (S, zi_cpy I p q o w k, R, T) = some (0, (S, zi_cpy I p q o w 520, R, T)) := by
    intro u
    induction u with
    | zero =>
      intro k w' k1 k2 k3
      obtain ⟨w', rfl⟩ : ∃ w'', w' = w'' + 1 := ⟨w' - 1, by omega⟩
      obtain rfl : k = 520 := by omega
      rw [zk_212_3]
      ((try simp only [zbd_conv]); simp (disch := first | assumption | omega | trivial) only [↓reduceIte, zbd_some, eq_self, Int.reduceEq, Int.reduceLT, Int.reduceLE, and_self, or_true, true_or, or_false, false_or, if_pos, if_neg, if_true, if_false, true_and, and_true, not_true_eq_false, not_false_eq_true, false_and, and_false, Option.bind_some, zq_t, zq_f, zq0, zq1, zw_id])
    | succ u ih =>
      intro k w' k1 k2 k3
      obtain ⟨w', rfl⟩ : ∃ w'', w' = w'' + 1 := ⟨w' - 1, by omega⟩
      have e : zi_cpy I p q o w k p (o + k) = I p (o + k) := by rw [zi_cpy_at2, if_neg (by omega)]
      rw [zk_212_3]
      ((try simp only [zbd_conv]); simp (disch := first | assumption | omega | trivial) only [↓reduceIte, zbd_some, eq_self, Int.reduceEq, Int.reduceLT, Int.reduceLE, and_self, or_true, true_or, or_false, false_or, if_pos, if_neg, if_true, if_false, true_and, and_true, not_true_eq_false, not_false_eq_true, false_and, and_false, Option.bind_some, zq_t, zq_f, zq0, zq1, zw_id, hp, hq, e, zwr])
      refine zr_mem ?_ (ih (k + 1) w' (by omega) (by omega) (by omega))
      funext z j
      rw [zi_up_at, zi_cpy_at2, zi_cpy_at2]
      by_cases g1 : z = q ∧ j = w + k
      · rw [if_pos g1, if_pos (by omega)]
        congr 1; omega
      · rw [if_neg g1]
        by_cases g2 : z = q ∧ w ≤ j ∧ j < w + k
        · rw [if_pos g2, if_pos (by omega)]
        · rw [if_neg g2, if_neg (by omega)]
  refine zr_mem ?_ (key 520 0 19999 (by omega) (by omega) (by omega))
  funext z j
  rw [zi_cpy_at2, if_neg (by omega)]
theorem zy_isDone (h : zs_mo S R a) (hn : I a 4 = n) (hn2 : 0 ≤ n ∧ n ≤ 16) : ∃ J, zG (d + 2) 213 [.inr (.inr a)] (S, I, R, T) = some (0, (S, J, R, T)) ∧ (∀ q, q ≠ a → q ≠ a + 3 → J q = I q) ∧ (∀ j, j ≠ 4 → J a j = I a j) ∧ J a 4 = (if n < 16 then n + 1 else 16) ∧ J (a + 3) = zt_push (I (a + 3)) (I (a + 1)) n := by
  have h1 := zmo_1 h
  rw [zm_213]
  by_cases g16 : n = 16
  · have cp := fun I w (hw : 0 ≤ w ∧ w + 520 ≤ 8320) => zy_copies (d := d) (I := I) (R := R) (T := T) (o := 0) (w := w) (zmo_s1 h) (zmo_s3 h) (by omega) (by omega) (by omega)
    have key : ∀ (u : Nat) (k : Int) (w' : Nat), (u : Int) + k = 8320 → 520 ≤ k → u < w' → zi_run zt_213 (zG (d + 1)) w' 13 [some (.inr (.inr a)), some (.inl k)] [] (S, fun z j => if z = a + 3 ∧ 0 ≤ j ∧ j < k - 520 then I z (j + 520) else I z j, R, T) = some (0, (S, zi_up (zi_cpy (zi_up (fun z j => if z = a + 3 ∧ 0 ≤ j ∧ j < 7800 then I z (j + 520) else I z j) a 4 15) (a + 1) (a + 3) 0 7800 520) a 4 16, R, T)) := by
      intro u
      induction u with
      | zero =>
        intro k w' k1 k2 k3
        obtain ⟨w', rfl⟩ : ∃ w'', w' = w'' + 1 := ⟨w' - 1, by omega⟩
        obtain rfl : k = 8320 := by omega
        obtain ⟨M, hM⟩ : ∃ M : zI, M = fun z j => if z = a + 3 ∧ 0 ≤ j ∧ j < 7800 then I z (j + 520) else I z j := ⟨_, rfl⟩
        have e : (fun z j => if z = a + 3 ∧ 0 ≤ j ∧ j < (8320 : Int) - 520 then I z (j + 520) else I z j) = M := by
          rw [hM]
          funext z j
          rw [show (8320 : Int) - 520 = 7800 by omega]
        have m4 : M a 4 = 16 := by rw [hM]; dsimp only; rw [if_neg (by omega), hn, g16]
        have m5 : zi_up M a 4 15 a 4 = 15 := zu_eq ⟨rfl, rfl⟩
        have m6 : zi_cpy (zi_up M a 4 15) (a + 1) (a + 3) 0 7800 520 a 4 = 15 := by rw [zi_cpy_at2, if_neg (by omega), m5]
        rw [e, ← hM, zk_213_13]
        ((try simp only [zbd_conv]); simp (disch := first | assumption | omega | trivial) only [↓reduceIte, zbd_some, eq_self, Int.reduceEq, Int.reduceLT, Int.reduceLE, and_self, or_true, true_or, or_false, false_or, if_pos, if_neg, if_true, if_false, true_and, and_true, not_true_eq_false, not_false_eq_true, false_and, and_false, Option.bind_some, zq_t, zq_f, zq0, zq1, zw_id, h1, m4, zwr, Int.reduceSub, Int.reduceMul, Int.reduceAdd, m5, zmo_r0 h, zmo_r2 h, cp (zi_up M a 4 15) 7800 (by omega), m6])
      | succ u ih =>
        intro k w' k1 k2 k3
        obtain ⟨w', rfl⟩ : ∃ w'', w' = w'' + 1 := ⟨w' - 1, by omega⟩
        have e : (fun z j => if z = a + 3 ∧ 0 ≤ j ∧ j < k - 520 then I z (j + 520) else I z j) (a + 3) k = I (a + 3) k := by
          show (if a + 3 = a + 3 ∧ 0 ≤ k ∧ k < k - 520 then I (a + 3) (k + 520) else I (a + 3) k) = _
          rw [if_neg (by omega)]
        obtain ⟨M, hM⟩ : ∃ M : zI, M = fun z j => if z = a + 3 ∧ 0 ≤ j ∧ j < k - 520 then I z (j + 520) else I z j := ⟨_, rfl⟩
        rw [← hM] at e ⊢
        rw [zk_213_13]
        ((try simp only [zbd_conv]); simp (disch := first | assumption | omega | trivial) only [↓reduceIte, zbd_some, eq_self, Int.reduceEq, Int.reduceLT, Int.reduceLE, and_self, or_true, true_or, or_false, false_or, if_pos, if_neg, if_true, if_false, true_and, and_true, not_true_eq_false, not_false_eq_true, false_and, and_false, Option.bind_some, zq_t, zq_f, zq0, zq1, zw_id, h1, zmo_r2 h, zmo_s3 h, e, zwr])
        refine zr_mem ?_ (ih (k + 1) w' (by omega) (by omega) (by omega))
        funext z j
        rw [zi_up_at, hM]
        dsimp only
        by_cases g1 : z = a + 3 ∧ j = k - 520
        · rw [if_pos g1, if_pos (by omega), g1.1]
          congr 1; omega
        · rw [if_neg g1]
          by_cases g2 : z = a + 3 ∧ 0 ≤ j ∧ j < k - 520
          · rw [if_pos g2, if_pos (by omega)]
          · rw [if_neg g2, if_neg (by omega)]
    have start := key 7800 520 19999 (by omega) (by omega) (by omega)
    have e0 : (fun z j => if z = a + 3 ∧ 0 ≤ j ∧ j < (520 : Int) - 520 then I z (j + 520) else I z j) = I := by
      funext z j
      rw [if_neg (by omega)]
    rw [e0] at start
    refine ⟨zi_up (zi_cpy (zi_up (fun z j => if z = a + 3 ∧ 0 ≤ j ∧ j < 7800 then I z (j + 520) else I z j) a 4 15) (a + 1) (a + 3) 0 7800 520) a 4 16, ?_, fun z z1 z2 => ?_, fun j hj => ?_, ?_, ?_⟩
    · ((try simp only [zbd_conv]); simp (disch := first | assumption | omega | trivial) only [↓reduceIte, zbd_some, eq_self, Int.reduceEq, Int.reduceLT, Int.reduceLE, and_self, or_true, true_or, or_false, false_or, if_pos, if_neg, if_true, if_false, true_and, and_true, not_true_eq_false, not_false_eq_true, false_and, and_false, Option.bind_some, zq_t, zq_f, zq0, zq1, zw_id, h1, hn])
      exact start
    · funext j
      rw [zu_off z1, zi_cpy_at2, if_neg (by omega), zu_off z1, if_neg (by omega)]
    · rw [zu_ne (by omega), zi_cpy_at2, if_neg (by omega), zu_ne (by omega), if_neg (by omega)]
    · rw [zu_eq ⟨rfl, rfl⟩, if_neg (by omega)]
    · funext j
      rw [zu_off (by omega), zi_cpy_at2, zt_push_at, if_neg (show ¬ n < 16 by omega)]
      by_cases g1 : 7800 ≤ j ∧ j < 8320
      · rw [if_pos (by omega), if_neg (by omega), if_pos g1, zu_off (by omega), if_neg (by omega)]
        congr 1; omega
      · rw [if_neg (by omega), zu_off (by omega)]
        by_cases g2 : 0 ≤ j ∧ j < 7800
        · rw [if_pos ⟨rfl, g2⟩, if_pos g2]
        · rw [if_neg (by omega), if_neg g2, if_neg g1]
  · have cp := zy_copies (d := d) (I := I) (R := R) (T := T) (o := 0) (w := 520 * n) (zmo_s1 h) (zmo_s3 h) (by omega) (by omega) (by omega)
    have m4 : zi_cpy I (a + 1) (a + 3) 0 (520 * n) 520 a 4 = n := by rw [zi_cpy_at2, if_neg (by omega), hn]
    refine ⟨zi_up (zi_cpy I (a + 1) (a + 3) 0 (520 * n) 520) a 4 (n + 1), ?_, fun z z1 z2 => ?_, fun j hj => ?_, ?_, ?_⟩
    · ((try simp only [zbd_conv]); simp (disch := first | assumption | omega | trivial) only [↓reduceIte, zbd_some, eq_self, Int.reduceEq, Int.reduceLT, Int.reduceLE, and_self, or_true, true_or, or_false, false_or, if_pos, if_neg, if_true, if_false, true_and, and_true, not_true_eq_false, not_false_eq_true, false_and, and_false, Option.bind_some, zq_t, zq_f, zq0, zq1, zw_id, h1, hn, zmo_r0 h, zmo_r2 h, cp, m4, zwr])
    · funext j
      rw [zu_off z1, zi_cpy_at2, if_neg (by omega)]
    · rw [zu_ne (by omega), zi_cpy_at2, if_neg (by omega)]
    · rw [zu_eq ⟨rfl, rfl⟩, if_pos (by omega)]
    · funext j
      rw [zu_off (by omega), zi_cpy_at2, zt_push_at, if_pos (show n < 16 by omega)]
      by_cases g1 : 520 * n ≤ j ∧ j < 520 * n + 520
      · rw [if_pos (by omega), if_pos g1]
        congr 1; omega
      · rw [if_neg (by omega), if_neg g1]
theorem zy_edits (h : zs_mo S R a) (hn : I a 4 = n) (hn2 : 0 ≤ n ∧ n ≤ 16) : ∃ J, zG (d + 3) 214 [.inr (.inr a)] (S, I, R, T) = some (0, (S, J, R, T)) ∧ (∀ q, q ≠ a → q ≠ a + 3 → J q = I q) ∧ (∀ j, j ≠ 4 → j ≠ 5 → J a j = I a j) ∧ J a 4 = (if n < 16 then n + 1 else 16) ∧ J a 5 = 0 ∧ J (a + 3) = zt_push (I (a + 3)) (I (a + 1)) n := by
  obtain ⟨J, e1, e2, e3, e4, e5⟩ := zy_isDone (d := d) (I := I) (T := T) h hn hn2
  have h1 := zmo_1 h
  refine ⟨zi_up J a 5 0, ?_, fun q q1 q2 => ?_, fun j j1 j2 => ?_, ?_, zu_eq ⟨rfl, rfl⟩, ?_⟩
  · rw [zm_214]
    ((try simp only [zbd_conv]); simp (disch := first | assumption | omega | trivial) only [↓reduceIte, zbd_some, eq_self, Int.reduceEq, Int.reduceLT, Int.reduceLE, and_self, or_true, true_or, or_false, false_or, if_pos, if_neg, if_true, if_false, true_and, and_true, not_true_eq_false, not_false_eq_true, false_and, and_false, Option.bind_some, zq_t, zq_f, zq0, zq1, zw_id, h1, e1, zwr])
  · rw [zu_off q1]; exact e2 q q1 q2
  · rw [zu_ne (by omega)]; exact e3 j j1
  · rw [zu_ne (by omega)]; exact e4
  · rw [zu_off (by omega)]; exact e5
/-- n signs come into line l at i -/
def zt_insn (P : Int → Int) (l i n len : Int) (g : Int → Int) : Int → Int := fun j => if j = 1 + l then len + n else if j = 519 then i + n else if 13 + 40 * l + i ≤ j ∧ j < 13 + 40 * l + i + n then g (j - (13 + 40 * l + i)) else if 13 + 40 * l + i + n ≤ j ∧ j < 13 + 40 * l + len + n then P (j - n) else P j
theorem zt_insn_at {j : Int} : zt_insn P l i n len g j = if j = 1 + l then len + n else if j = 519 then i + n else if 13 + 40 * l + i ≤ j ∧ j < 13 + 40 * l + i + n then g (j - (13 + 40 * l + i)) else if 13 + 40 * l + i + n ≤ j ∧ j < 13 + 40 * l + len + n then P (j - n) else P j := rfl
def zt_spr (P : Int → Int) (l i n len : Int) : Int → Int := fun j => if j = 1 + l then len + n else if 13 + 40 * l + i + n ≤ j ∧ j < 13 + 40 * l + len + n then P (j - n) else P j
theorem zt_spr_at {j : Int} : zt_spr P l i n len j = if j = 1 + l then len + n else if 13 + 40 * l + i + n ≤ j ∧ j < 13 + 40 * l + len + n then P (j - n) else P j := rfl
theorem zy_spreads (h : zs_mo S R a) (hP : I (a + 1) = P) (hl : P 518 = l) (hi : P 519 = i) (hlen : P (1 + l) = len) (hl2 : 0 ≤ l ∧ l < 12) (hi2 : 0 ≤ i ∧ i ≤ len) (hn : 1 ≤ n ∧ len + n ≤ 40) : zG (d + 2) 215 [.inr (.inr a), .inl n] (S, I, R, T) = some (0, (S, zt_row I (a + 1) (zt_spr P l i n len), R, T)) := by
  have h1 := zmo_1 h
  have p8 : I (a + 1) 518 = l := by rw [hP, hl]
  have plen : I (a + 1) (1 + l) = len := by rw [hP, hlen]
  rw [zm_215]
  have key : ∀ (u : Nat) (k : Int) (w' : Nat), (u : Int) = k + 1 - i → i ≤ k + 1 → k < len → u < w' → zi_run zt_215 (zG (d + 1)) w' 30 [some (.inr (.inr a)), some (.inl n), some (.inl (13 + 40 * l)), some (.inl k)] [] (S, zt_row I (a + 1) (fun j => if 13 + 40 * l + k + 1 + n ≤ j ∧ j < 13 + 40 * l + len + n then P (j - n) else P j), R, T) = some (0, (S, zt_row I (a + 1) (zt_spr P l i n len), R, T)) := by
    intro u
    induction u with
    | zero =>
      intro k w' k1 k2 k3 k4
      obtain ⟨w', rfl⟩ : ∃ w'', w' = w'' + 1 := ⟨w' - 1, by omega⟩
      obtain rfl : k = i - 1 := by omega
      obtain ⟨Q, hQ⟩ : ∃ Q : Int → Int, Q = fun j => if 13 + 40 * l + (i - 1) + 1 + n ≤ j ∧ j < 13 + 40 * l + len + n then P (j - n) else P j := ⟨_, rfl⟩
      have q9 : Q 519 = i := by rw [hQ]; dsimp only; rw [if_neg (by omega), hi]
      have q8 : Q 518 = l := by rw [hQ]; dsimp only; rw [if_neg (by omega), hl]
      have ql : Q (1 + l) = len := by rw [hQ]; dsimp only; rw [if_neg (by omega), hlen]
      rw [← hQ, zk_215_30]
      ((try simp only [zbd_conv]); simp (disch := first | assumption | omega | trivial) only [↓reduceIte, zbd_some, eq_self, Int.reduceEq, Int.reduceLT, Int.reduceLE, and_self, or_true, true_or, or_false, false_or, if_pos, if_neg, if_true, if_false, true_and, and_true, not_true_eq_false, not_false_eq_true, false_and, and_false, Option.bind_some, zq_t, zq_f, zq0, zq1, zw_id, h1, zmo_r0 h, zmo_s1 h, zt_row_eq, q9, q8, ql, zwr, zt_row_up])
      refine zr_some (congrArg (zt_row I (a + 1)) ?_)
      funext j
      rw [zt_up_at, zt_spr_at, hQ]
      by_cases g1 : j = 1 + l
      · rw [if_pos g1, if_pos g1]
      · rw [if_neg g1, if_neg g1]
        dsimp only
        by_cases g2 : 13 + 40 * l + i + n ≤ j ∧ j < 13 + 40 * l + len + n
        · rw [if_pos (by omega), if_pos g2]
        · rw [if_neg (by omega), if_neg g2]
    | succ u ih =>
      intro k w' k1 k2 k3 k4
      obtain ⟨w', rfl⟩ : ∃ w'', w' = w'' + 1 := ⟨w' - 1, by omega⟩
      obtain ⟨Q, hQ⟩ : ∃ Q : Int → Int, Q = fun j => if 13 + 40 * l + k + 1 + n ≤ j ∧ j < 13 + 40 * l + len + n then P (j - n) else P j := ⟨_, rfl⟩
      have q9 : Q 519 = i := by rw [hQ]; dsimp only; rw [if_neg (by omega), hi]
      have qk : Q (13 + 40 * l + k) = P (13 + 40 * l + k) := by rw [hQ]; dsimp only; rw [if_neg (by omega)]
      rw [← hQ, zk_215_30]
      ((try simp only [zbd_conv]); simp (disch := first | assumption | omega | trivial) only [↓reduceIte, zbd_some, eq_self, Int.reduceEq, Int.reduceLT, Int.reduceLE, and_self, or_true, true_or, or_false, false_or, if_pos, if_neg, if_true, if_false, true_and, and_true, not_true_eq_false, not_false_eq_true, false_and, and_false, Option.bind_some, zq_t, zq_f, zq0, zq1, zw_id, h1, zmo_r0 h, zmo_s1 h, zt_row_eq, q9, qk, zwr, zt_row_up])
      refine zr_mem (congrArg (zt_row I (a + 1)) ?_) (ih (k + -1) w' (by omega) (by omega) (by omega) (by omega))
      funext j
      rw [zt_up_at, hQ]
      dsimp only
      by_cases g1 : j = 13 + 40 * l + k + n
      · rw [if_pos g1, if_pos (by omega)]
        congr 1; omega
      · rw [if_neg g1]
        by_cases g2 : 13 + 40 * l + k + 1 + n ≤ j ∧ j < 13 + 40 * l + len + n
        · rw [if_pos g2, if_pos (by omega)]
        · rw [if_neg g2, if_neg (by omega)]
  ((try simp only [zbd_conv]); simp (disch := first | assumption | omega | trivial) only [↓reduceIte, zbd_some, eq_self, Int.reduceEq, Int.reduceLT, Int.reduceLE, and_self, or_true, true_or, or_false, false_or, if_pos, if_neg, if_true, if_false, true_and, and_true, not_true_eq_false, not_false_eq_true, false_and, and_false, Option.bind_some, zq_t, zq_f, zq0, zq1, zw_id, h1, zmo_r0 h, zmo_s1 h, p8, zy_len h, plen])
  refine zr_mem ?_ (key (len - i).toNat (len - 1) 19999 (by omega) (by omega) (by omega) (by omega))
  rw [← zt_row_self (I := I) (p := a + 1), zt_row_row, hP]
  congr 1
  funext j
  rw [if_neg (by omega)]
end ZMc
