/-! words that all that follows shares -/
theorem zw_id {x : Int} (h1 : -2147483648 ≤ x) (h2 : x < 2147483648) : zi_w x = x := zi_w_id ⟨h1, h2⟩
noncomputable def zq (P : Prop) : Int := @ite Int P (Classical.propDecidable P) 1 0
theorem zq_t {P : Prop} (h : P) : zq P = 1 := by unfold zq; exact if_pos h
theorem zq_f {P : Prop} (h : ¬ P) : zq P = 0 := by unfold zq; exact if_neg h
theorem zq01 {P : Prop} : zq P = 0 ∨ zq P = 1 := by
  by_cases h : P
  · exact Or.inr (zq_t h)
  · exact Or.inl (zq_f h)
theorem zq0 {P : Prop} : (zq P = 0) = ¬ P := by
  by_cases h : P
  · rw [zq_t h]; exact propext ⟨fun q => absurd q (by omega), fun q => absurd h q⟩
  · rw [zq_f h]; exact propext ⟨fun _ => h, fun _ => rfl⟩
theorem zq1 {P : Prop} : (zq P = 1) = P := by
  by_cases h : P
  · rw [zq_t h]; exact propext ⟨fun _ => h, fun _ => rfl⟩
  · rw [zq_f h]; exact propext ⟨fun q => absurd q (by omega), fun q => absurd q h⟩
theorem zq_congr {P Q : Prop} (h : P ↔ Q) : zq P = zq Q := by rw [propext h]
abbrev zS : Type := Int → Nat × Int
abbrev zI : Type := Int → Int → Int
/-- an array behind a look at the index -/
def zk_pk (I : zI) (a n i : Int) : Int := if 0 ≤ i ∧ i < n then I a i else 0
def zk_pt (I : zI) (a n i v : Int) : zI := if 0 ≤ i ∧ i < n then zi_up I a i v else I
theorem zk_pk_in {I : zI} {a n i : Int} (h : 0 ≤ i ∧ i < n) : zk_pk I a n i = I a i := if_pos h
theorem zk_pk_out {I : zI} {a n i : Int} (h : ¬ (0 ≤ i ∧ i < n)) : zk_pk I a n i = 0 := if_neg h
theorem zk_pt_in {I : zI} {a n i v : Int} (h : 0 ≤ i ∧ i < n) : zk_pt I a n i v = zi_up I a i v := if_pos h
theorem zk_pt_out {I : zI} {a n i v : Int} (h : ¬ (0 ≤ i ∧ i < n)) : zk_pt I a n i v = I := if_neg h
theorem zu_eq {I : zI} {a k v x j : Int} (h : x = a ∧ j = k) : zi_up I a k v x j = v := if_pos h
theorem zu_ne {I : zI} {a k v x j : Int} (h : ¬ (x = a ∧ j = k)) : zi_up I a k v x j = I x j := if_neg h
theorem zu_off {I : zI} {a k v x : Int} (h : ¬ x = a) : zi_up I a k v x = I x := by
  funext j
  exact if_neg (fun q => h q.1)
theorem zc {I : zI} {x y i j : Int} (h1 : x = y) (h2 : i = j) : I x i = I y j := by rw [h1, h2]
theorem zwr {S : zS} {I R : zI} {T : Int × Nat} {a k v : Int} : zi_wr (S, I, R, T) a k v = (S, zi_up I a k v, R, T) := rfl
theorem zwq {S : zS} {I R : zI} {T : Int × Nat} {a k v : Int} : zi_wq (S, I, R, T) a k v = (S, I, zi_up R a k v, T) := rfl
/-- nothing but what lies from lo on and ahead of hi is other than before -/
def zo (lo hi : Int) (I J : zI) : Prop := ∀ x, (x < lo ∨ hi ≤ x) → J x = I x
theorem zo_refl {lo hi : Int} {I : zI} : zo lo hi I I := fun _ _ => rfl
theorem zo_trans {lo hi : Int} {I J K : zI} (h1 : zo lo hi I J) (h2 : zo lo hi J K) : zo lo hi I K := fun x h => (h2 x h).trans (h1 x h)
theorem zo_mono {lo hi lo' hi' : Int} {I J : zI} (h : zo lo hi I J) (h1 : lo' ≤ lo) (h2 : hi ≤ hi') : zo lo' hi' I J := fun x hx => h x (by omega)
theorem zo_up {lo hi a k v : Int} {I : zI} (h : lo ≤ a ∧ a < hi) : zo lo hi I (zi_up I a k v) := fun x hx => zu_off (by omega)
/-! loops -/
theorem zl_ex {n : Int} {p : Int → Prop} {run : Nat → Int → zR} {σ : zM} (h1 : ∀ w k, 0 ≤ k → k < n → p k → run (w + 1) k = some (1, σ)) (h2 : ∀ w k, 0 ≤ k → k < n → ¬ p k → run (w + 1) k = run w (k + 1)) (h3 : ∀ w k, 0 ≤ k → n ≤ k → run (w + 1) k = some (0, σ)) {w : Nat} (hw : n.toNat < w) : run w 0 = some (zq (∃ k, (0 ≤ k ∧ k < n) ∧ p k), σ) := by
  have key : ∀ (w : Nat) (k : Int), 0 ≤ k → (∀ j, 0 ≤ j → j < k → ¬ p j) → (n - k).toNat < w → run w k = some (zq (∃ k, (0 ≤ k ∧ k < n) ∧ p k), σ) := by
    intro w
    induction w with
    | zero => intro k _ _ h; omega
    | succ w ih =>
      intro k hk hp hm
      by_cases hn : k < n
      · by_cases hpk : p k
        · rw [h1 w k hk hn hpk, zq_t ⟨k, ⟨hk, hn⟩, hpk⟩]
        · rw [h2 w k hk hn hpk]
          refine ih (k + 1) (by omega) (fun j hj hjk => ?_) (by omega)
          by_cases hjj : j = k
          · subst hjj; exact hpk
          · exact hp j hj (by omega)
      · rw [h3 w k hk (by omega), zq_f]
        rintro ⟨j, ⟨a, b⟩, c⟩
        exact hp j a (by omega) c
  exact key w 0 (by omega) (fun j a b => absurd b (by omega)) (by omega)
theorem zl_while {β : Type} (P : β → Prop) (m : β → Nat) (Q : Int → zM → Prop) (run : Nat → β → zR) (h : ∀ w b, P b → (∃ b', P b' ∧ m b' < m b ∧ run (w + 1) b = run w b') ∨ (∃ v σ, run (w + 1) b = some (v, σ) ∧ Q v σ)) : ∀ w b, P b → m b < w → ∃ v σ, run w b = some (v, σ) ∧ Q v σ := by
  intro w
  induction w with
  | zero => intro b _ h; omega
  | succ w ih =>
    intro b hb hm
    rcases h w b hb with ⟨b', h1, h2, h3⟩ | h1
    · rw [h3]
      exact ih b' h1 (by omega)
    · exact h1
/-- a sum of the first n -/
def zk_sum (g : Int → Int) : Nat → Int
  | 0 => 0
  | k + 1 => zk_sum g k + g k
def zk_sm (g : Int → Int) (n : Int) : Int := zk_sum g n.toNat
theorem zk_sm0 {g : Int → Int} {n : Int} (h : n ≤ 0) : zk_sm g n = 0 := by
  unfold zk_sm
  rw [show n.toNat = 0 by omega]; rfl
theorem zk_smS {g : Int → Int} {n : Int} (h : 0 ≤ n) : zk_sm g (n + 1) = zk_sm g n + g n := by
  obtain ⟨k, rfl⟩ : ∃ k : Nat, n = k := ⟨n.toNat, by omega⟩
  unfold zk_sm
  rw [show ((k : Int) + 1).toNat = k + 1 by omega, show ((k : Int)).toNat = k by omega]; rfl
theorem zk_sm_congr {f g : Int → Int} {n : Int} (h : ∀ k, 0 ≤ k → k < n → f k = g k) : zk_sm f n = zk_sm g n := by
  have key : ∀ k : Nat, (k : Int) ≤ n → zk_sum f k = zk_sum g k := by
    intro k
    induction k with
    | zero => intro _; rfl
    | succ k ih =>
      intro hk
      show zk_sum f k + f k = zk_sum g k + g k
      rw [ih (by omega), h k (by omega) (by omega)]
  unfold zk_sm
  by_cases hn : 0 ≤ n
  · exact key _ (by omega)
  · rw [show n.toNat = 0 by omega]; rfl
theorem zk_sm_ir {g : Int → Int} {m n : Int} (hn : 0 ≤ n) (h : ∀ k, 0 ≤ k → k < n → 0 ≤ g k ∧ g k ≤ m) : 0 ≤ zk_sm g n ∧ zk_sm g n ≤ n * m := by
  have key : ∀ k : Nat, (k : Int) ≤ n → 0 ≤ zk_sum g k ∧ zk_sum g k ≤ k * m := by
    intro k
    induction k with
    | zero => intro _; simp [zk_sum]
    | succ k ih =>
      intro hk
      have h1 := ih (by omega)
      have h2 := h k (by omega) (by omega)
      have h3 : ((k + 1 : Nat) : Int) * m = k * m + m := by
        rw [Int.natCast_add, Int.add_mul]; simp
      show 0 ≤ zk_sum g k + g k ∧ zk_sum g k + g k ≤ _
      rw [h3]
      omega
  have := key n.toNat (by omega)
  rw [show ((n.toNat : Nat) : Int) = n by omega] at this
  exact this
theorem zk_sm_mono {g : Int → Int} {n m : Int} (h0 : 0 ≤ n) (hm : n ≤ m) (h : ∀ k, 0 ≤ k → k < m → 0 ≤ g k) : zk_sm g n ≤ zk_sm g m := by
  have key : ∀ k : Nat, n + k ≤ m → zk_sm g n ≤ zk_sm g (n + k) := by
    intro k
    induction k with
    | zero => intro _; simp
    | succ k ih =>
      intro hk
      have h1 := ih (by omega)
      have h2 := h (n + k) (by omega) (by omega)
      rw [show n + ((k + 1 : Nat) : Int) = n + k + 1 by omega, zk_smS (by omega)]
      omega
  have := key (m - n).toNat (by omega)
  rw [show n + (((m - n).toNat : Nat) : Int) = m by omega] at this
  exact this
theorem zl_sum {n : Int} {g : Int → Int} {run : Nat → Int → Int → zR} {σ : zM} (hn : 0 ≤ n) (h2 : ∀ w k, 0 ≤ k → k < n → run (w + 1) k (zk_sm g k) = run w (k + 1) (zk_sm g k + g k)) (h3 : ∀ w, run (w + 1) n (zk_sm g n) = some (zk_sm g n, σ)) {w : Nat} (hw : n.toNat < w) : run w 0 0 = some (zk_sm g n, σ) := by
  have key : ∀ (w : Nat) (k : Int), 0 ≤ k → k ≤ n → (n - k).toNat < w → run w k (zk_sm g k) = some (zk_sm g n, σ) := by
    intro w
    induction w with
    | zero => intro k _ _ h; omega
    | succ w ih =>
      intro k hk hkn hm
      by_cases hkk : k < n
      · rw [h2 w k hk hkk, ← zk_smS hk]
        exact ih (k + 1) (by omega) (by omega) (by omega)
      · have : k = n := by omega
        subst this
        exact h3 w
  have := key w 0 (by omega) hn (by omega)
  rw [zk_sm0 (by omega)] at this
  exact this
/-! the class: numbers -/
def zs_li (S : zS) (R : zI) (a : Int) : Prop := 0 < a ∧ (S a).1 = 5 ∧ R a 1 = a + 1 ∧ R a 2 = a + 2 ∧ S (a + 1) = (12, 12) ∧ S (a + 2) = (12, 480)
def zs_fo (S : zS) (R : zI) (a : Int) : Prop := 0 < a ∧ (S a).1 = 0 ∧ R a 1 = a + 1 ∧ R a 2 = a + 2 ∧ R a 3 = a + 3 ∧ S (a + 1) = (12, 8) ∧ S (a + 2) = (12, 8) ∧ S (a + 3) = (12, 8)
section ZL
variable {d : Nat} {S : zS} {I R : zI} {T : Int × Nat} {a i n v l f c : Int}
theorem zx_pick (ha : 0 < a) (hS : S a = (12, n)) : zG (d + 1) 72 [.inr (.inr a), .inl i] (S, I, R, T) = some (zk_pk I a n i, (S, I, R, T)) := by
  rw [zm_72]
  by_cases h1 : i < 0
  · simp (disch := first | assumption | omega | trivial) only [if_pos, if_neg, if_true, if_false, true_and, and_true, not_true_eq_false, not_false_eq_true, false_and, and_false, Option.bind_some, zq_t, zq_f, zq0, zq1, zw_id, zk_pk_out]
  · by_cases h2 : i < n <;> simp (disch := first | assumption | omega | trivial) only [if_pos, if_neg, if_true, if_false, true_and, and_true, not_true_eq_false, not_false_eq_true, false_and, and_false, Option.bind_some, zq_t, zq_f, zq0, zq1, zw_id, zk_pk_out, zk_pk_in, hS]
theorem zx_put (ha : 0 < a) (hS : S a = (12, n)) : zG (d + 1) 73 [.inr (.inr a), .inl i, .inl v] (S, I, R, T) = some (0, (S, zk_pt I a n i v, R, T)) := by
  rw [zm_73]
  by_cases h1 : i < 0
  · simp (disch := first | assumption | omega | trivial) only [if_pos, if_neg, if_true, if_false, true_and, and_true, not_true_eq_false, not_false_eq_true, false_and, and_false, Option.bind_some, zq_t, zq_f, zq0, zq1, zw_id, zk_pt_out]
  · by_cases h2 : i < n <;> simp (disch := first | assumption | omega | trivial) only [if_pos, if_neg, if_true, if_false, true_and, and_true, not_true_eq_false, not_false_eq_true, false_and, and_false, Option.bind_some, zq_t, zq_f, zq0, zq1, zw_id, zk_pt_out, zk_pt_in, hS, zwr]
theorem zx_sum (ha : 0 < a) (hS : S a = (12, n)) {m e : Int} (hm : 0 ≤ m ∧ m ≤ 1000) (hn : 0 ≤ n ∧ n ≤ 1000) (he : 0 ≤ e ∧ e ≤ n) (hg : ∀ j, 0 ≤ j → j < e → 0 ≤ I a j ∧ I a j ≤ m) : zG (d + 2) 75 [.inr (.inr a), .inl e] (S, I, R, T) = some (zk_sm (I a) e, (S, I, R, T)) := by
  rw [zm_75]
  refine zl_sum (n := e) (g := I a) (run := fun w k s => zi_run zt_75 (zG (d + 1)) w 4 [some (.inr (.inr a)), some (.inl e), some (.inl s), some (.inl k)] [] (S, I, R, T)) he.1 (fun w k h1 h2 => ?_) (fun w => ?_) (by omega)
  · have hb := zk_sm_ir (g := I a) (m := m) h1 (fun j hj hk => hg j hj (by omega))
    have hbk := hg k h1 h2
    have hkm : k * m ≤ 1000 * 1000 := Int.mul_le_mul (by omega) (by omega) (by omega) (by omega)
    show zi_run _ _ _ _ _ _ _ = _
    rw [zk_75_4]
    simp (disch := first | assumption | omega | trivial) only [if_pos, if_neg, if_true, if_false, true_and, and_true, not_true_eq_false, not_false_eq_true, false_and, and_false, Option.bind_some, zq_t, zq_f, zq0, zq1, zw_id, zx_pick ha hS, zk_pk_in]
  · show zi_run _ _ _ _ _ _ _ = _
    rw [zk_75_4]
    simp (disch := first | assumption | omega | trivial) only [if_pos, if_neg, if_true, if_false, true_and, and_true, not_true_eq_false, not_false_eq_true, false_and, and_false, Option.bind_some, zq_t, zq_f, zq0, zq1, zw_id]
theorem zx_copy (ha : 0 < a) (hS : S a = (12, n)) (hc : 0 < c) (hC : S c = (12, n)) (hn : 0 ≤ n ∧ n ≤ 1000) : zG (d + 2) 74 [.inr (.inr a), .inr (.inr c)] (S, I, R, T) = some (0, (S, zi_cpy I a c 0 0 n, R, T)) := by
  rw [zm_74]
  have hmin : zG (d + 1) 1002 [.inl n, .inl n] (S, I, R, T) = some (n, (S, I, R, T)) := by
    show some ((if n < n then n else n), _) = _
    simp
  have hcp : zG (d + 1) 1005 [.inr (.inr a), .inl 0, .inr (.inr c), .inl 0, .inl n] (S, I, R, T) = some (0, (S, zi_cpy I a c 0 0 n, R, T)) := by
    show (if ((S a).1 = 12 ∧ (S c).1 = 12) ∧ (0 : Int) ≤ 0 ∧ (0 : Int) ≤ 0 ∧ 0 ≤ n ∧ 0 + n ≤ (S a).2 ∧ 0 + n ≤ (S c).2 then some (0, (S, zi_cpy I a c 0 0 n, R, T)) else none) = _
    rw [if_pos]
    simp only [hS, hC]
    exact ⟨⟨trivial, trivial⟩, by omega, by omega, by omega, by omega, by omega⟩
  simp (disch := first | assumption | omega | trivial) only [if_pos, if_neg, if_true, if_false, true_and, and_true, not_true_eq_false, not_false_eq_true, false_and, and_false, Option.bind_some, zq_t, zq_f, zq0, zq1, zw_id, hS, hC, hmin, hcp]
end ZL
