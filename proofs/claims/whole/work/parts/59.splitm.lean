/-! the reference splits a line -/
section ZSm
variable {d : Nat} {S : zS} {I J K R : zI} {T : Int × Nat} {M n v l f c k x y z r i p m a N : Int} {P Q s : Int → Int}
def zt_cpl (P : Int → Int) (x y : Int) : Int → Int := fun j => if j = 1 + y then P (1 + x) else if 13 + 40 * y ≤ j ∧ j < 13 + 40 * y + 40 then P (j - 40 * y + 40 * x) else P j
theorem zt_cpl_at {j : Int} : zt_cpl P x y j = if j = 1 + y then P (1 + x) else if 13 + 40 * y ≤ j ∧ j < 13 + 40 * y + 40 then P (j - 40 * y + 40 * x) else P j := rfl
theorem zy_copiesLine (h : zs_mo S R a) (hP : I (a + 1) = P) (hx : 0 ≤ x ∧ x < 12) (hy : 0 ≤ y ∧ y < 12) (hxy : x ≠ y) : zG (d + 1) 218 [.inr (.inr a), .inl x, .inl y] (S, I, R, T) = some (0, (S, zt_row I (a + 1) (zt_cpl P x y), R, T)) := by
  have h1 := zmo_1 h
  have px : I (a + 1) (1 + x) = P (1 + x) := by rw [hP]
  rw [zm_218]
  have key : ∀ (u : Nat) (k : Int) (w' : Nat), (u : Int) + k = 40 → 0 ≤ k → u < w' → zi_run zt_218 (zG d) w' 18 [some (.inr (.inr a)), some (.inl x), some (.inl y), some (.inl k)] [] (S, zt_row I (a + 1) (fun j => if j = 1 + y then P (1 + x) else if 13 + 40 * y ≤ j ∧ j < 13 + 40 * y + k then P (j - 40 * y + 40 * x) else P j), R, T) = some (0, (S, zt_row I (a + 1) (zt_cpl P x y), R, T)) := by
    intro u
    induction u with
    | zero =>
      intro k w' k1 k2 k3
      obtain ⟨w', rfl⟩ : ∃ w'', w' = w'' + 1 := ⟨w' - 1, by omega⟩
      obtain rfl : k = 40 := by omega
      rw [zk_218_18]
      ((try simp only [zbd_conv]); simp (disch := first | assumption | omega | trivial) only [↓reduceIte, zbd_some, eq_self, Int.reduceEq, Int.reduceLT, Int.reduceLE, and_self, or_true, true_or, or_false, false_or, if_pos, if_neg, if_true, if_false, true_and, and_true, not_true_eq_false, not_false_eq_true, false_and, and_false, Option.bind_some, zq_t, zq_f, zq0, zq1, zw_id])
      rfl
    | succ u ih =>
      intro k w' k1 k2 k3
      obtain ⟨w', rfl⟩ : ∃ w'', w' = w'' + 1 := ⟨w' - 1, by omega⟩
      obtain ⟨Q, hQ⟩ : ∃ Q : Int → Int, Q = fun j => if j = 1 + y then P (1 + x) else if 13 + 40 * y ≤ j ∧ j < 13 + 40 * y + k then P (j - 40 * y + 40 * x) else P j := ⟨_, rfl⟩
      have qk : Q (13 + 40 * x + k) = P (13 + 40 * x + k) := by rw [hQ]; dsimp only; rw [if_neg (by omega), if_neg (by omega)]
      rw [← hQ, zk_218_18]
      ((try simp only [zbd_conv]); simp (disch := first | assumption | omega | trivial) only [↓reduceIte, zbd_some, eq_self, Int.reduceEq, Int.reduceLT, Int.reduceLE, and_self, or_true, true_or, or_false, false_or, if_pos, if_neg, if_true, if_false, true_and, and_true, not_true_eq_false, not_false_eq_true, false_and, and_false, Option.bind_some, zq_t, zq_f, zq0, zq1, zw_id, h1, zmo_r0 h, zmo_s1 h, zt_row_eq, qk, zwr, zt_row_up])
      refine zr_mem (congrArg (zt_row I (a + 1)) ?_) (ih (k + 1) w' (by omega) (by omega) (by omega))
      funext j
      rw [zt_up_at, hQ]
      dsimp only
      by_cases g1 : j = 13 + 40 * y + k
      · rw [if_pos g1, if_neg (by omega), if_pos (by omega)]
        congr 1; omega
      · rw [if_neg g1]
        by_cases g0 : j = 1 + y
        · rw [if_pos g0, if_pos g0]
        · rw [if_neg g0, if_neg g0]
          by_cases g2 : 13 + 40 * y ≤ j ∧ j < 13 + 40 * y + k
          · rw [if_pos g2, if_pos (by omega)]
          · rw [if_neg g2, if_neg (by omega)]
  ((try simp only [zbd_conv]); simp (disch := first | assumption | omega | trivial) only [↓reduceIte, zbd_some, eq_self, Int.reduceEq, Int.reduceLT, Int.reduceLE, and_self, or_true, true_or, or_false, false_or, if_pos, if_neg, if_true, if_false, true_and, and_true, not_true_eq_false, not_false_eq_true, false_and, and_false, Option.bind_some, zq_t, zq_f, zq0, zq1, zw_id, h1, zmo_r0 h, zmo_s1 h, px, zwr])
  refine zr_mem ?_ (key 40 0 19999 (by omega) (by omega) (by omega))
  rw [zt_row_up0, hP]
  congr 1
  funext j
  rw [zt_up_at]
  by_cases g0 : j = 1 + y
  · rw [if_pos g0, if_pos g0]
  · rw [if_neg g0, if_neg g0, if_neg (by omega)]
def zt_spk (Q : Int → Int) (l k : Int) : Int → Int := fun j => if 494 ≤ j ∧ j < 494 + 3 * k ∧ (j - 494) % 3 = 0 ∧ l < Q j then Q j + 1 else if 494 ≤ j ∧ j < 494 + 3 * k ∧ (j - 494) % 3 = 1 ∧ l ≤ Q j then Q j + 1 else Q j
theorem zt_spk_at {j : Int} : zt_spk Q l k j = if 494 ≤ j ∧ j < 494 + 3 * k ∧ (j - 494) % 3 = 0 ∧ l < Q j then Q j + 1 else if 494 ≤ j ∧ j < 494 + 3 * k ∧ (j - 494) % 3 = 1 ∧ l ≤ Q j then Q j + 1 else Q j := rfl
theorem zt_spk_off {j : Int} (h : j < 494 ∨ 494 + 3 * k ≤ j) : zt_spk Q l k j = Q j := by
  rw [zt_spk_at, if_neg (by omega), if_neg (by omega)]
theorem zt_spk_step {A B : Int} (hk : 0 ≤ k) (hA : A = if l < Q (494 + 3 * k) then Q (494 + 3 * k) + 1 else Q (494 + 3 * k)) (hB : B = if l ≤ Q (495 + 3 * k) then Q (495 + 3 * k) + 1 else Q (495 + 3 * k)) : zt_up (zt_up (zt_spk Q l k) (494 + 3 * k) A) (495 + 3 * k) B = zt_spk Q l (k + 1) := by
  funext j
  rw [zt_up_at, zt_up_at, zt_spk_at, zt_spk_at]
  by_cases a1 : j = 495 + 3 * k
  · subst a1
    rw [if_pos rfl, if_neg (show ¬ (494 ≤ 495 + 3 * k ∧ 495 + 3 * k < 494 + 3 * (k + 1) ∧ (495 + 3 * k - 494) % 3 = 0 ∧ l < Q (495 + 3 * k)) by omega), hB]
    by_cases g : l ≤ Q (495 + 3 * k)
    · rw [if_pos g, if_pos (by omega)]
    · rw [if_neg g, if_neg (by omega)]
  · rw [if_neg a1]
    by_cases a2 : j = 494 + 3 * k
    · subst a2
      rw [if_pos rfl, hA]
      by_cases g : l < Q (494 + 3 * k)
      · rw [if_pos g, if_pos (by omega)]
      · rw [if_neg g, if_neg (by omega), if_neg (by omega)]
    · rw [if_neg a2]
      by_cases c1 : 494 ≤ j ∧ j < 494 + 3 * k ∧ (j - 494) % 3 = 0 ∧ l < Q j
      · rw [if_pos c1, if_pos (by omega)]
      · rw [if_neg c1, if_neg (show ¬ (494 ≤ j ∧ j < 494 + 3 * (k + 1) ∧ (j - 494) % 3 = 0 ∧ l < Q j) by omega)]
        by_cases c2 : 494 ≤ j ∧ j < 494 + 3 * k ∧ (j - 494) % 3 = 1 ∧ l ≤ Q j
        · rw [if_pos c2, if_pos (by omega)]
        · rw [if_neg c2, if_neg (by omega)]
theorem zy_spl3 (hm : zs_mo S R M) (hl : 0 ≤ l ∧ l < 12) (hN : Q 493 = N) (hN2 : 0 ≤ N ∧ N ≤ 8) (hb : ∀ k, 0 ≤ k → k < N → (0 ≤ Q (494 + 3 * k) ∧ Q (494 + 3 * k) ≤ 100) ∧ 0 ≤ Q (495 + 3 * k) ∧ Q (495 + 3 * k) ≤ 100) (hs : zG (d + 6) 205 [.inr (.inr M)] (S, zt_row I (M + 1) (zt_up (zt_up (zt_spk Q l N) 518 (l + 1)) 519 0), R, T) = some (0, (S, K, R, T))) (hv : K (M + 1) 0 = v) : ∀ (u : Nat) (k : Int) (w' : Nat), (u : Int) + k = N → 0 ≤ k → u < w' → zi_run zt_223 (zG (d + 6)) w' 166 [some (.inr (.inr M)), some (.inl l), none, none, some (.inl k)] [] (S, zt_row I (M + 1) (zt_spk Q l k), R, T) = some (v, (S, K, R, T)) := by
  have h1 := zmo_1 hm
  intro u
  induction u with
  | zero =>
    intro k w' k1 k2 k3
    obtain ⟨w', rfl⟩ : ∃ w'', w' = w'' + 1 := ⟨w' - 1, by omega⟩
    obtain rfl : k = N := by omega
    have qN : zt_spk Q l k 493 = k := by rw [zt_spk_off (by omega), hN]
    rw [zk_223_166]
    ((try simp only [zbd_conv]); simp (disch := first | assumption | omega | trivial) only [↓reduceIte, zbd_some, eq_self, Int.reduceEq, Int.reduceLT, Int.reduceLE, and_self, or_true, true_or, or_false, false_or, if_pos, if_neg, if_true, if_false, true_and, and_true, not_true_eq_false, not_false_eq_true, false_and, and_false, Option.bind_some, zq_t, zq_f, zq0, zq1, zw_id, h1, zmo_r0 hm, zmo_s1 hm, zt_row_eq, qN, zwr, zt_row_up, hs, hv])
  | succ u ih =>
    intro k w' k1 k2 k3
    obtain ⟨w', rfl⟩ : ∃ w'', w' = w'' + 1 := ⟨w' - 1, by omega⟩
    have bk := hb k k2 (by omega)
    have e5 : 494 + 3 * k + 1 = 495 + 3 * k := by omega
    have qN : zt_spk Q l k 493 = N := by rw [zt_spk_off (by omega), hN]
    have q4 : zt_spk Q l k (494 + 3 * k) = Q (494 + 3 * k) := zt_spk_off (by omega)
    have q5 : zt_spk Q l k (495 + 3 * k) = Q (495 + 3 * k) := zt_spk_off (by omega)
    have n5 : ∀ A, zt_up (zt_spk Q l k) (494 + 3 * k) A (495 + 3 * k) = Q (495 + 3 * k) := fun A => by rw [zt_up_ne (by omega), q5]
    rw [zk_223_166]
    by_cases g1 : l < Q (494 + 3 * k) <;> by_cases g2 : l ≤ Q (495 + 3 * k)
    · ((try simp only [zbd_conv]); simp (disch := first | assumption | omega | trivial) only [↓reduceIte, zbd_some, eq_self, Int.reduceEq, Int.reduceLT, Int.reduceLE, and_self, or_true, true_or, or_false, false_or, if_pos, if_neg, if_true, if_false, true_and, and_true, not_true_eq_false, not_false_eq_true, false_and, and_false, Option.bind_some, zq_t, zq_f, zq0, zq1, zw_id, h1, zmo_r0 hm, zmo_s1 hm, zt_row_eq, qN, zy_firstOf hm, zy_lastOf hm, q4, q5, n5, e5, zwr, zt_row_up])
      exact zr_mem (congrArg (zt_row I (M + 1)) (zt_spk_step k2 (by rw [if_pos g1]) (by rw [if_pos g2]))) (ih (k + 1) w' (by omega) (by omega) (by omega))
    · ((try simp only [zbd_conv]); simp (disch := first | assumption | omega | trivial) only [↓reduceIte, zbd_some, eq_self, Int.reduceEq, Int.reduceLT, Int.reduceLE, and_self, or_true, true_or, or_false, false_or, if_pos, if_neg, if_true, if_false, true_and, and_true, not_true_eq_false, not_false_eq_true, false_and, and_false, Option.bind_some, zq_t, zq_f, zq0, zq1, zw_id, h1, zmo_r0 hm, zmo_s1 hm, zt_row_eq, qN, zy_firstOf hm, zy_lastOf hm, q4, q5, n5, e5, zwr, zt_row_up])
      exact zr_mem (congrArg (zt_row I (M + 1)) (zt_spk_step k2 (by rw [if_pos g1]) (by rw [if_neg g2]; omega))) (ih (k + 1) w' (by omega) (by omega) (by omega))
    · ((try simp only [zbd_conv]); simp (disch := first | assumption | omega | trivial) only [↓reduceIte, zbd_some, eq_self, Int.reduceEq, Int.reduceLT, Int.reduceLE, and_self, or_true, true_or, or_false, false_or, if_pos, if_neg, if_true, if_false, true_and, and_true, not_true_eq_false, not_false_eq_true, false_and, and_false, Option.bind_some, zq_t, zq_f, zq0, zq1, zw_id, h1, zmo_r0 hm, zmo_s1 hm, zt_row_eq, qN, zy_firstOf hm, zy_lastOf hm, q4, q5, n5, e5, zwr, zt_row_up])
      exact zr_mem (congrArg (zt_row I (M + 1)) (zt_spk_step k2 (by rw [if_neg g1]; omega) (by rw [if_pos g2]))) (ih (k + 1) w' (by omega) (by omega) (by omega))
    · ((try simp only [zbd_conv]); simp (disch := first | assumption | omega | trivial) only [↓reduceIte, zbd_some, eq_self, Int.reduceEq, Int.reduceLT, Int.reduceLE, and_self, or_true, true_or, or_false, false_or, if_pos, if_neg, if_true, if_false, true_and, and_true, not_true_eq_false, not_false_eq_true, false_and, and_false, Option.bind_some, zq_t, zq_f, zq0, zq1, zw_id, h1, zmo_r0 hm, zmo_s1 hm, zt_row_eq, qN, zy_firstOf hm, zy_lastOf hm, q4, q5, n5, e5, zwr, zt_row_up])
      exact zr_mem (congrArg (zt_row I (M + 1)) (zt_spk_step k2 (by rw [if_neg g1]; omega) (by rw [if_neg g2]; omega))) (ih (k + 1) w' (by omega) (by omega) (by omega))
def zt_spm (Q : Int → Int) (l i c : Int) : Int → Int := fun j => if 53 + 40 * l ≤ j ∧ j < 53 + 40 * l + (c - i) then Q (j - 40 + i) else Q j
theorem zt_spm_at {j : Int} : zt_spm Q l i c j = if 53 + 40 * l ≤ j ∧ j < 53 + 40 * l + (c - i) then Q (j - 40 + i) else Q j := rfl
def zt_sp2 (Q : Int → Int) (l i n : Int) : Int → Int := zt_up (zt_up (zt_spm Q l i n) (1 + l + 1) (n - i)) (1 + l) i
theorem zy_spl2 (hm : zs_mo S R M) (hl : 0 ≤ l ∧ l < 11) (hi : 0 ≤ i ∧ i ≤ n ∧ n ≤ 40) (hN : Q 493 = N) (hN2 : 0 ≤ N ∧ N ≤ 8) (hb : ∀ k, 0 ≤ k → k < N → (0 ≤ Q (494 + 3 * k) ∧ Q (494 + 3 * k) ≤ 100) ∧ 0 ≤ Q (495 + 3 * k) ∧ Q (495 + 3 * k) ≤ 100) (hs : zG (d + 6) 205 [.inr (.inr M)] (S, zt_row I (M + 1) (zt_up (zt_up (zt_spk (zt_sp2 Q l i n) l N) 518 (l + 1)) 519 0), R, T) = some (0, (S, K, R, T))) (hv : K (M + 1) 0 = v) : ∀ (u : Nat) (k : Int) (w' : Nat), (u : Int) + k = n → i ≤ k → u + 10 < w' → zi_run zt_223 (zG (d + 6)) w' 94 [some (.inr (.inr M)), some (.inl l), some (.inl i), some (.inl n), some (.inl k)] [] (S, zt_row I (M + 1) (zt_spm Q l i k), R, T) = some (v, (S, K, R, T)) := by
  have h1 := zmo_1 hm
  intro u
  induction u with
  | zero =>
    intro k w' k1 k2 k3
    obtain ⟨w', rfl⟩ : ∃ w'', w' = w'' + 1 := ⟨w' - 1, by omega⟩
    obtain rfl : k = n := by omega
    have off : ∀ j, 493 ≤ j → zt_sp2 Q l i k j = Q j := fun j hj => by
      unfold zt_sp2
      rw [zt_up_ne (by omega), zt_up_ne (by omega), zt_spm_at, if_neg (by omega)]
    rw [zk_223_94]
    ((try simp only [zbd_conv]); simp (disch := first | assumption | omega | trivial) only [↓reduceIte, zbd_some, eq_self, Int.reduceEq, Int.reduceLT, Int.reduceLE, and_self, or_true, true_or, or_false, false_or, if_pos, if_neg, if_true, if_false, true_and, and_true, not_true_eq_false, not_false_eq_true, false_and, and_false, Option.bind_some, zq_t, zq_f, zq0, zq1, zw_id, h1, zmo_r0 hm, zmo_s1 hm, zt_row_eq, zwr, zt_row_up])
    refine zr_mem (congrArg (zt_row I (M + 1)) ?_) (zy_spl3 (d := d) (Q := zt_sp2 Q l i k) (N := N) hm (by omega) (by rw [off _ (by omega), hN]) hN2 (fun k k1 k2 => by rw [off (494 + 3 * k) (by omega), off (495 + 3 * k) (by omega)]; exact hb k k1 k2) hs hv N.toNat 0 w' (by omega) (by omega) (by omega))
    funext j
    rw [zt_spk_off (by omega)]
    rfl
  | succ u ih =>
    intro k w' k1 k2 k3
    obtain ⟨w', rfl⟩ : ∃ w'', w' = w'' + 1 := ⟨w' - 1, by omega⟩
    have qk : zt_spm Q l i k (13 + 40 * l + k) = Q (13 + 40 * l + k) := by rw [zt_spm_at, if_neg (by omega)]
    rw [zk_223_94]
    ((try simp only [zbd_conv]); simp (disch := first | assumption | omega | trivial) only [↓reduceIte, zbd_some, eq_self, Int.reduceEq, Int.reduceLT, Int.reduceLE, and_self, or_true, true_or, or_false, false_or, if_pos, if_neg, if_true, if_false, true_and, and_true, not_true_eq_false, not_false_eq_true, false_and, and_false, Option.bind_some, zq_t, zq_f, zq0, zq1, zw_id, h1, zmo_r0 hm, zmo_s1 hm, zt_row_eq, qk, zwr, zt_row_up])
    refine zr_mem (congrArg (zt_row I (M + 1)) ?_) (ih (k + 1) w' (by omega) (by omega) (by omega))
    funext j
    rw [zt_up_at, zt_spm_at, zt_spm_at]
    by_cases g1 : j = 13 + 40 * l + 40 + k - i
    · rw [if_pos g1, if_pos (by omega)]
      congr 1; omega
    · rw [if_neg g1]
      by_cases g2 : 53 + 40 * l ≤ j ∧ j < 53 + 40 * l + (k - i)
      · rw [if_pos g2, if_pos (by omega)]
      · rw [if_neg g2, if_neg (by omega)]
def zt_sps (P : Int → Int) (k m : Int) : Int → Int := fun j => if k + 3 ≤ j ∧ j ≤ 1 + m then P (j - 1) else if 93 + 40 * k ≤ j ∧ j < 53 + 40 * m then P (j - 40) else P j
theorem zt_sps_at {j : Int} : zt_sps P k m j = if k + 3 ≤ j ∧ j ≤ 1 + m then P (j - 1) else if 93 + 40 * k ≤ j ∧ j < 53 + 40 * m then P (j - 40) else P j := rfl
def zt_spl (P : Int → Int) (l i n m N : Int) : Int → Int := zt_up (zt_up (zt_spk (zt_sp2 (zt_up (zt_sps P l m) 0 (m + 1)) l i n) l N) 518 (l + 1)) 519 0
theorem zy_spl1 (hm : zs_mo S R M) (hm0 : P 0 = m) (hn : P (1 + l) = n) (hl : 0 ≤ l ∧ l < m ∧ m < 12) (hi : 0 ≤ i ∧ i ≤ n ∧ n ≤ 40) (hN : P 493 = N) (hN2 : 0 ≤ N ∧ N ≤ 8) (hb : ∀ k, 0 ≤ k → k < N → (0 ≤ P (494 + 3 * k) ∧ P (494 + 3 * k) ≤ 100) ∧ 0 ≤ P (495 + 3 * k) ∧ P (495 + 3 * k) ≤ 100) (hs : zG (d + 6) 205 [.inr (.inr M)] (S, zt_row I (M + 1) (zt_spl P l i n m N), R, T) = some (0, (S, K, R, T))) (hv : K (M + 1) 0 = v) : ∀ (u : Nat) (k : Int) (w' : Nat), (u : Int) + l = k → k < m → u + 60 < w' → zi_run zt_223 (zG (d + 6)) w' 56 [some (.inr (.inr M)), some (.inl l), some (.inl i), some (.inl k), none] [] (S, zt_row I (M + 1) (zt_sps P k m), R, T) = some (v, (S, K, R, T)) := by
  have h1 := zmo_1 hm
  intro u
  induction u with
  | zero =>
    intro k w' k1 k2 k3
    obtain ⟨w', rfl⟩ : ∃ w'', w' = w'' + 1 := ⟨w' - 1, by omega⟩
    obtain rfl : k = l := by omega
    have q0 : zt_sps P k m 0 = m := by rw [zt_sps_at, if_neg (by omega), if_neg (by omega), hm0]
    obtain ⟨Q, hQ⟩ : ∃ Q, Q = zt_up (zt_sps P k m) 0 (m + 1) := ⟨_, rfl⟩
    have off : ∀ j, 493 ≤ j → Q j = P j := fun j hj => by
      rw [hQ, zt_up_ne (by omega), zt_sps_at, if_neg (by omega), if_neg (by omega)]
    have qn : Q (1 + k) = n := by rw [hQ, zt_up_ne (by omega), zt_sps_at, if_neg (by omega), if_neg (by omega), hn]
    rw [zk_223_56]
    ((try simp only [zbd_conv]); simp (disch := first | assumption | omega | trivial) only [↓reduceIte, zbd_some, eq_self, Int.reduceEq, Int.reduceLT, Int.reduceLE, and_self, or_true, true_or, or_false, false_or, if_pos, if_neg, if_true, if_false, true_and, and_true, not_true_eq_false, not_false_eq_true, false_and, and_false, Option.bind_some, zq_t, zq_f, zq0, zq1, zw_id, h1, zmo_r0 hm, zmo_s1 hm, zt_row_eq, q0, zwr, zt_row_up, ← hQ, zy_len hm, qn])
    unfold zt_spl at hs
    rw [← hQ] at hs
    refine zr_mem (congrArg (zt_row I (M + 1)) ?_) (zy_spl2 (d := d) (Q := Q) (N := N) hm (by omega) hi (by rw [off _ (by omega), hN]) hN2 (fun k k1 k2 => by rw [off (494 + 3 * k) (by omega), off (495 + 3 * k) (by omega)]; exact hb k k1 k2) hs hv (n - i).toNat i w' (by omega) (by omega) (by omega))
    funext j
    rw [zt_spm_at, if_neg (by omega)]
  | succ u ih =>
    intro k w' k1 k2 k3
    obtain ⟨w', rfl⟩ : ∃ w'', w' = w'' + 1 := ⟨w' - 1, by omega⟩
    have cp := zy_copiesLine (d := d + 5) (I := zt_row I (M + 1) (zt_sps P k m)) (T := T) hm zt_row_eq (x := k) (y := k + 1) (by omega) (by omega) (by omega)
    rw [zk_223_56]
    ((try simp only [zbd_conv]); simp (disch := first | assumption | omega | trivial) only [↓reduceIte, zbd_some, eq_self, Int.reduceEq, Int.reduceLT, Int.reduceLE, and_self, or_true, true_or, or_false, false_or, if_pos, if_neg, if_true, if_false, true_and, and_true, not_true_eq_false, not_false_eq_true, false_and, and_false, Option.bind_some, zq_t, zq_f, zq0, zq1, zw_id, h1, cp])
    rw [zt_row_row]
    refine zr_mem (congrArg (zt_row I (M + 1)) ?_) (ih (k + -1) w' (by omega) (by omega) (by omega))
    funext j
    rw [zt_cpl_at, zt_sps_at]
    by_cases g0 : j = 1 + (k + 1)
    · rw [if_pos g0, zt_sps_at, if_neg (by omega), if_neg (by omega), if_pos (by omega)]
      congr 1; omega
    · rw [if_neg g0]
      by_cases g1 : 13 + 40 * (k + 1) ≤ j ∧ j < 13 + 40 * (k + 1) + 40
      · rw [if_pos g1, zt_sps_at, if_neg (by omega), if_neg (by omega), zt_sps_at, if_neg (by omega), if_pos (by omega)]
        congr 1; omega
      · rw [if_neg g1, zt_sps_at, zt_sps_at]
        by_cases g2 : k + 3 ≤ j ∧ j ≤ 1 + m
        · rw [if_pos g2, if_pos (by omega)]
        · rw [if_neg g2, if_neg (show ¬ (k + -1 + 3 ≤ j ∧ j ≤ 1 + m) by omega)]
          by_cases g3 : 93 + 40 * k ≤ j ∧ j < 53 + 40 * m
          · rw [if_pos g3, if_pos (by omega)]
          · rw [if_neg g3, if_neg (by omega)]
end ZSm
