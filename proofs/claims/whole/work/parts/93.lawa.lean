/-! the steps of the law -/
section ZNv
variable {d w : Nat} {S : zS} {I R : zI} {T : Int × Nat} {X M x0 L i : Int}
/-- one step of the law's loop -/
def zq9_go (d w : Nat) (S : zS) (I R : zI) (T : Int × Nat) (X M x0 i : Int) : Prop := ∃ K R', zi_run zt_239 (zG (d + 11)) (w + 1) 18 [some (.inr (.inr x0)), some (.inr (.inr X)), some (.inr (.inr M)), some (.inl i)] [] (S, I, R, T) = zi_run zt_239 (zG (d + 11)) w 18 [some (.inr (.inr x0)), some (.inr (.inr X)), some (.inr (.inr M)), some (.inl (i + 5))] [] (S, K, R', T) ∧ zR4 S K R' X M ∧ K x0 = I x0
def zq9_at (S : zS) (I R : zI) (T : Int × Nat) (X M x0 L i : Int) : Prop := zR4 S I R X M ∧ S x0 = (18, L) ∧ x0 < T.1 ∧ (0 ≤ i ∧ i + 5 ≤ L ∧ L ≤ 2560) ∧ ∀ j, 0 ≤ j → j < L → zi_ir (I x0 j)
theorem zq9_op0 (h : zq9_at S I R T X M x0 L i) (ho : zi_and (I x0 i) 31 = 0) : zq9_go d w S I R T X M x0 i := by
  obtain ⟨h4, hx, hq, ⟨i0, i1, i2⟩, hr⟩ := h
  have hz : zz_ok (d + 11) S I R T X M 106 167 [.inl (I x0 (i + 1))] := zz_feed h4
  obtain ⟨v, J, R1, K, h1, h2, h3⟩ := hz
  have e1 : J x0 = I x0 := zk_keeps h1 (by rw [hx]) hq
  have e2 : K x0 = J x0 := zk_keeps h2 (by rw [hx]) hq
  have k1 : (S X).1 = 10 := h4.1.1.2
  have k2 : (S M).1 = 11 := h4.2.1.1.2
  refine ⟨K, R1, ?_, h3, e2.trans e1⟩
  rw [zk_239_18]
  ((try simp only [zbd_conv]); simp (disch := first | assumption | omega | trivial) only [↓reduceIte, zbd_some, eq_self, Int.reduceEq, Int.reduceLT, Int.reduceLE, and_self, or_true, true_or, or_false, false_or, if_pos, if_neg, if_true, if_false, true_and, and_true, not_true_eq_false, not_false_eq_true, false_and, and_false, Option.bind_some, zq_t, zq_f, zq0, zq1, zw_id, hx, ho, k1, k2, h1, e1, h2])
theorem zq9_op1 (h : zq9_at S I R T X M x0 L i) (ho : zi_and (I x0 i) 31 = 1) : zq9_go d w S I R T X M x0 i := by
  obtain ⟨h4, hx, hq, ⟨i0, i1, i2⟩, hr⟩ := h
  have hz : zz_ok (d + 11) S I R T X M 107 168 [.inl (I x0 (i + 1))] := zz_end h4
  obtain ⟨v, J, R1, K, h1, h2, h3⟩ := hz
  have e1 : J x0 = I x0 := zk_keeps h1 (by rw [hx]) hq
  have e2 : K x0 = J x0 := zk_keeps h2 (by rw [hx]) hq
  have k1 : (S X).1 = 10 := h4.1.1.2
  have k2 : (S M).1 = 11 := h4.2.1.1.2
  refine ⟨K, R1, ?_, h3, e2.trans e1⟩
  rw [zk_239_18]
  ((try simp only [zbd_conv]); simp (disch := first | assumption | omega | trivial) only [↓reduceIte, zbd_some, eq_self, Int.reduceEq, Int.reduceLT, Int.reduceLE, and_self, or_true, true_or, or_false, false_or, if_pos, if_neg, if_true, if_false, true_and, and_true, not_true_eq_false, not_false_eq_true, false_and, and_false, Option.bind_some, zq_t, zq_f, zq0, zq1, zw_id, hx, ho, k1, k2, h1, e1, h2])
end ZNv
