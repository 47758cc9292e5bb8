/-! the steps of the law, further -/
section ZNv
variable {d w : Nat} {S : zS} {I R : zI} {T : Int × Nat} {X M x0 L i : Int}
theorem zq9_op2 (h : zq9_at S I R T X M x0 L i) (ho : zi_and (I x0 i) 31 = 2) : zq9_go d w S I R T X M x0 i := by
  obtain ⟨h4, hx, hq, ⟨i0, i1, i2⟩, hr⟩ := h
  have hz : zz_ok (d + 11) S I R T X M 108 172 [] := zz_text h4
  obtain ⟨v, J, R1, K, h1, h2, h3⟩ := hz
  have e1 : J x0 = I x0 := zk_keeps h1 (by rw [hx]) hq
  have e2 : K x0 = J x0 := zk_keeps h2 (by rw [hx]) hq
  have k1 : (S X).1 = 10 := h4.1.1.2
  have k2 : (S M).1 = 11 := h4.2.1.1.2
  refine ⟨K, R1, ?_, h3, e2.trans e1⟩
  rw [zk_239_18]
  ((try simp only [zbd_conv]); simp (disch := first | assumption | omega | trivial) only [↓reduceIte, zbd_some, eq_self, Int.reduceEq, Int.reduceLT, Int.reduceLE, and_self, or_true, true_or, or_false, false_or, if_pos, if_neg, if_true, if_false, true_and, and_true, not_true_eq_false, not_false_eq_true, false_and, and_false, Option.bind_some, zq_t, zq_f, zq0, zq1, zw_id, hx, ho, k1, k2, h1, e1, h2])
theorem zq9_op3 (h : zq9_at S I R T X M x0 L i) (ho : zi_and (I x0 i) 31 = 3) : zq9_go d w S I R T X M x0 i := by
  obtain ⟨h4, hx, hq, ⟨i0, i1, i2⟩, hr⟩ := h
  have hz : zz_ok (d + 11) S I R T X M 109 173 [] := zz_fault h4
  obtain ⟨v, J, R1, K, h1, h2, h3⟩ := hz
  have e1 : J x0 = I x0 := zk_keeps h1 (by rw [hx]) hq
  have e2 : K x0 = J x0 := zk_keeps h2 (by rw [hx]) hq
  have k1 : (S X).1 = 10 := h4.1.1.2
  have k2 : (S M).1 = 11 := h4.2.1.1.2
  refine ⟨K, R1, ?_, h3, e2.trans e1⟩
  rw [zk_239_18]
  ((try simp only [zbd_conv]); simp (disch := first | assumption | omega | trivial) only [↓reduceIte, zbd_some, eq_self, Int.reduceEq, Int.reduceLT, Int.reduceLE, and_self, or_true, true_or, or_false, false_or, if_pos, if_neg, if_true, if_false, true_and, and_true, not_true_eq_false, not_false_eq_true, false_and, and_false, Option.bind_some, zq_t, zq_f, zq0, zq1, zw_id, hx, ho, k1, k2, h1, e1, h2])
theorem zq9_op4 (h : zq9_at S I R T X M x0 L i) (ho : zi_and (I x0 i) 31 = 4) : zq9_go d w S I R T X M x0 i := by
  obtain ⟨h4, hx, hq, ⟨i0, i1, i2⟩, hr⟩ := h
  have hz : zz_ok (d + 11) S I R T X M 110 189 [.inl (I x0 (i + 1))] := zz_rule h4
  obtain ⟨v, J, R1, K, h1, h2, h3⟩ := hz
  have e1 : J x0 = I x0 := zk_keeps h1 (by rw [hx]) hq
  have e2 : K x0 = J x0 := zk_keeps h2 (by rw [hx]) hq
  have k1 : (S X).1 = 10 := h4.1.1.2
  have k2 : (S M).1 = 11 := h4.2.1.1.2
  refine ⟨K, R1, ?_, h3, e2.trans e1⟩
  rw [zk_239_18]
  ((try simp only [zbd_conv]); simp (disch := first | assumption | omega | trivial) only [↓reduceIte, zbd_some, eq_self, Int.reduceEq, Int.reduceLT, Int.reduceLE, and_self, or_true, true_or, or_false, false_or, if_pos, if_neg, if_true, if_false, true_and, and_true, not_true_eq_false, not_false_eq_true, false_and, and_false, Option.bind_some, zq_t, zq_f, zq0, zq1, zw_id, hx, ho, k1, k2, h1, e1, h2])
theorem zq9_op5 (h : zq9_at S I R T X M x0 L i) (ho : zi_and (I x0 i) 31 = 5) : zq9_go d w S I R T X M x0 i := by
  obtain ⟨h4, hx, hq, ⟨i0, i1, i2⟩, hr⟩ := h
  have hz : zz_ok (d + 11) S I R T X M 111 191 [.inl (I x0 (i + 1)), .inl (I x0 (i + 2))] := zz_sign h4
  obtain ⟨v, J, R1, K, h1, h2, h3⟩ := hz
  have e1 : J x0 = I x0 := zk_keeps h1 (by rw [hx]) hq
  have e2 : K x0 = J x0 := zk_keeps h2 (by rw [hx]) hq
  have k1 : (S X).1 = 10 := h4.1.1.2
  have k2 : (S M).1 = 11 := h4.2.1.1.2
  refine ⟨K, R1, ?_, h3, e2.trans e1⟩
  rw [zk_239_18]
  ((try simp only [zbd_conv]); simp (disch := first | assumption | omega | trivial) only [↓reduceIte, zbd_some, eq_self, Int.reduceEq, Int.reduceLT, Int.reduceLE, and_self, or_true, true_or, or_false, false_or, if_pos, if_neg, if_true, if_false, true_and, and_true, not_true_eq_false, not_false_eq_true, false_and, and_false, Option.bind_some, zq_t, zq_f, zq0, zq1, zw_id, hx, ho, k1, k2, h1, e1, h2])
theorem zq9_op6 (h : zq9_at S I R T X M x0 L i) (ho : zi_and (I x0 i) 31 = 6) : zq9_go d w S I R T X M x0 i := by
  obtain ⟨h4, hx, hq, ⟨i0, i1, i2⟩, hr⟩ := h
  have hz : zz_ok (d + 11) S I R T X M 112 193 [.inl (I x0 (i + 1)), .inl (I x0 (i + 2))] := zz_line h4
  obtain ⟨v, J, R1, K, h1, h2, h3⟩ := hz
  have e1 : J x0 = I x0 := zk_keeps h1 (by rw [hx]) hq
  have e2 : K x0 = J x0 := zk_keeps h2 (by rw [hx]) hq
  have k1 : (S X).1 = 10 := h4.1.1.2
  have k2 : (S M).1 = 11 := h4.2.1.1.2
  refine ⟨K, R1, ?_, h3, e2.trans e1⟩
  rw [zk_239_18]
  ((try simp only [zbd_conv]); simp (disch := first | assumption | omega | trivial) only [↓reduceIte, zbd_some, eq_self, Int.reduceEq, Int.reduceLT, Int.reduceLE, and_self, or_true, true_or, or_false, false_or, if_pos, if_neg, if_true, if_false, true_and, and_true, not_true_eq_false, not_false_eq_true, false_and, and_false, Option.bind_some, zq_t, zq_f, zq0, zq1, zw_id, hx, ho, k1, k2, h1, e1, h2])
theorem zq9_op7 (h : zq9_at S I R T X M x0 L i) (ho : zi_and (I x0 i) 31 = 7) : zq9_go d w S I R T X M x0 i := by
  obtain ⟨h4, hx, hq, ⟨i0, i1, i2⟩, hr⟩ := h
  have hz : zz_ok (d + 11) S I R T X M 113 196 [.inl (I x0 (i + 1)), .inl (I x0 (i + 2))] := zz_row h4 (hr (i + 1) (by omega) (by omega))
  obtain ⟨v, J, R1, K, h1, h2, h3⟩ := hz
  have e1 : J x0 = I x0 := zk_keeps h1 (by rw [hx]) hq
  have e2 : K x0 = J x0 := zk_keeps h2 (by rw [hx]) hq
  have k1 : (S X).1 = 10 := h4.1.1.2
  have k2 : (S M).1 = 11 := h4.2.1.1.2
  refine ⟨K, R1, ?_, h3, e2.trans e1⟩
  rw [zk_239_18]
  ((try simp only [zbd_conv]); simp (disch := first | assumption | omega | trivial) only [↓reduceIte, zbd_some, eq_self, Int.reduceEq, Int.reduceLT, Int.reduceLE, and_self, or_true, true_or, or_false, false_or, if_pos, if_neg, if_true, if_false, true_and, and_true, not_true_eq_false, not_false_eq_true, false_and, and_false, Option.bind_some, zq_t, zq_f, zq0, zq1, zw_id, hx, ho, k1, k2, h1, e1, h2])
theorem zq9_op8 (h : zq9_at S I R T X M x0 L i) (ho : zi_and (I x0 i) 31 = 8) : zq9_go d w S I R T X M x0 i := by
  obtain ⟨h4, hx, hq, ⟨i0, i1, i2⟩, hr⟩ := h
  have hz : zz_ok (d + 11) S I R T X M 114 197 [.inl (I x0 (i + 1)), .inl (I x0 (i + 2))] := zz_cell h4 (hr (i + 1) (by omega) (by omega)) (hr (i + 2) (by omega) (by omega))
  obtain ⟨v, J, R1, K, h1, h2, h3⟩ := hz
  have e1 : J x0 = I x0 := zk_keeps h1 (by rw [hx]) hq
  have e2 : K x0 = J x0 := zk_keeps h2 (by rw [hx]) hq
  have k1 : (S X).1 = 10 := h4.1.1.2
  have k2 : (S M).1 = 11 := h4.2.1.1.2
  refine ⟨K, R1, ?_, h3, e2.trans e1⟩
  rw [zk_239_18]
  ((try simp only [zbd_conv]); simp (disch := first | assumption | omega | trivial) only [↓reduceIte, zbd_some, eq_self, Int.reduceEq, Int.reduceLT, Int.reduceLE, and_self, or_true, true_or, or_false, false_or, if_pos, if_neg, if_true, if_false, true_and, and_true, not_true_eq_false, not_false_eq_true, false_and, and_false, Option.bind_some, zq_t, zq_f, zq0, zq1, zw_id, hx, ho, k1, k2, h1, e1, h2])
theorem zq9_op9 (h : zq9_at S I R T X M x0 L i) (ho : zi_and (I x0 i) 31 = 9) : zq9_go d w S I R T X M x0 i := by
  obtain ⟨h4, hx, hq, ⟨i0, i1, i2⟩, hr⟩ := h
  have hz : zz_ok (d + 11) S I R T X M 115 198 [.inl (I x0 (i + 1)), .inl (I x0 (i + 2)), .inl (I x0 (i + 3))] := zz_at h4
  obtain ⟨v, J, R1, K, h1, h2, h3⟩ := hz
  have e1 : J x0 = I x0 := zk_keeps h1 (by rw [hx]) hq
  have e2 : K x0 = J x0 := zk_keeps h2 (by rw [hx]) hq
  have k1 : (S X).1 = 10 := h4.1.1.2
  have k2 : (S M).1 = 11 := h4.2.1.1.2
  refine ⟨K, R1, ?_, h3, e2.trans e1⟩
  rw [zk_239_18]
  ((try simp only [zbd_conv]); simp (disch := first | assumption | omega | trivial) only [↓reduceIte, zbd_some, eq_self, Int.reduceEq, Int.reduceLT, Int.reduceLE, and_self, or_true, true_or, or_false, false_or, if_pos, if_neg, if_true, if_false, true_and, and_true, not_true_eq_false, not_false_eq_true, false_and, and_false, Option.bind_some, zq_t, zq_f, zq0, zq1, zw_id, hx, ho, k1, k2, h1, e1, h2])
theorem zq9_op10 (h : zq9_at S I R T X M x0 L i) (ho : zi_and (I x0 i) 31 = 10) : zq9_go d w S I R T X M x0 i := by
  obtain ⟨h4, hx, hq, ⟨i0, i1, i2⟩, hr⟩ := h
  have hz : zz_ok (d + 11) S I R T X M 116 200 [.inl (I x0 (i + 1)), .inl (I x0 (i + 2))] := zz_to h4 (hr (i + 1) (by omega) (by omega))
  obtain ⟨v, J, R1, K, h1, h2, h3⟩ := hz
  have e1 : J x0 = I x0 := zk_keeps h1 (by rw [hx]) hq
  have e2 : K x0 = J x0 := zk_keeps h2 (by rw [hx]) hq
  have k1 : (S X).1 = 10 := h4.1.1.2
  have k2 : (S M).1 = 11 := h4.2.1.1.2
  refine ⟨K, R1, ?_, h3, e2.trans e1⟩
  rw [zk_239_18]
  ((try simp only [zbd_conv]); simp (disch := first | assumption | omega | trivial) only [↓reduceIte, zbd_some, eq_self, Int.reduceEq, Int.reduceLT, Int.reduceLE, and_self, or_true, true_or, or_false, false_or, if_pos, if_neg, if_true, if_false, true_and, and_true, not_true_eq_false, not_false_eq_true, false_and, and_false, Option.bind_some, zq_t, zq_f, zq0, zq1, zw_id, hx, ho, k1, k2, h1, e1, h2])
theorem zq9_op11 (h : zq9_at S I R T X M x0 L i) (ho : zi_and (I x0 i) 31 = 11) : zq9_go d w S I R T X M x0 i := by
  obtain ⟨h4, hx, hq, ⟨i0, i1, i2⟩, hr⟩ := h
  have hz : zz_ok (d + 11) S I R T X M 117 201 [.inl (I x0 (i + 1)), .inl (I x0 (i + 2))] := zz_fold h4
  obtain ⟨v, J, R1, K, h1, h2, h3⟩ := hz
  have e1 : J x0 = I x0 := zk_keeps h1 (by rw [hx]) hq
  have e2 : K x0 = J x0 := zk_keeps h2 (by rw [hx]) hq
  have k1 : (S X).1 = 10 := h4.1.1.2
  have k2 : (S M).1 = 11 := h4.2.1.1.2
  refine ⟨K, R1, ?_, h3, e2.trans e1⟩
  rw [zk_239_18]
  ((try simp only [zbd_conv]); simp (disch := first | assumption | omega | trivial) only [↓reduceIte, zbd_some, eq_self, Int.reduceEq, Int.reduceLT, Int.reduceLE, and_self, or_true, true_or, or_false, false_or, if_pos, if_neg, if_true, if_false, true_and, and_true, not_true_eq_false, not_false_eq_true, false_and, and_false, Option.bind_some, zq_t, zq_f, zq0, zq1, zw_id, hx, ho, k1, k2, h1, e1, h2])
theorem zq9_op12 (h : zq9_at S I R T X M x0 L i) (ho : zi_and (I x0 i) 31 = 12) : zq9_go d w S I R T X M x0 i := by
  obtain ⟨h4, hx, hq, ⟨i0, i1, i2⟩, hr⟩ := h
  have hz : zz_ok (d + 11) S I R T X M 118 204 [.inl (I x0 (i + 1))] := zz_caret h4
  obtain ⟨v, J, R1, K, h1, h2, h3⟩ := hz
  have e1 : J x0 = I x0 := zk_keeps h1 (by rw [hx]) hq
  have e2 : K x0 = J x0 := zk_keeps h2 (by rw [hx]) hq
  have k1 : (S X).1 = 10 := h4.1.1.2
  have k2 : (S M).1 = 11 := h4.2.1.1.2
  refine ⟨K, R1, ?_, h3, e2.trans e1⟩
  rw [zk_239_18]
  ((try simp only [zbd_conv]); simp (disch := first | assumption | omega | trivial) only [↓reduceIte, zbd_some, eq_self, Int.reduceEq, Int.reduceLT, Int.reduceLE, and_self, or_true, true_or, or_false, false_or, if_pos, if_neg, if_true, if_false, true_and, and_true, not_true_eq_false, not_false_eq_true, false_and, and_false, Option.bind_some, zq_t, zq_f, zq0, zq1, zw_id, hx, ho, k1, k2, h1, e1, h2])
theorem zq9_op13 (h : zq9_at S I R T X M x0 L i) (ho : zi_and (I x0 i) 31 = 13) : zq9_go d w S I R T X M x0 i := by
  obtain ⟨h4, hx, hq, ⟨i0, i1, i2⟩, hr⟩ := h
  have hz : zz_ok (d + 11) S I R T X M 119 206 [.inl (I x0 (i + 1)), .inl (I x0 (i + 2))] := zz_go h4
  obtain ⟨v, J, R1, K, h1, h2, h3⟩ := hz
  have e1 : J x0 = I x0 := zk_keeps h1 (by rw [hx]) hq
  have e2 : K x0 = J x0 := zk_keeps h2 (by rw [hx]) hq
  have k1 : (S X).1 = 10 := h4.1.1.2
  have k2 : (S M).1 = 11 := h4.2.1.1.2
  refine ⟨K, R1, ?_, h3, e2.trans e1⟩
  rw [zk_239_18]
  ((try simp only [zbd_conv]); simp (disch := first | assumption | omega | trivial) only [↓reduceIte, zbd_some, eq_self, Int.reduceEq, Int.reduceLT, Int.reduceLE, and_self, or_true, true_or, or_false, false_or, if_pos, if_neg, if_true, if_false, true_and, and_true, not_true_eq_false, not_false_eq_true, false_and, and_false, Option.bind_some, zq_t, zq_f, zq0, zq1, zw_id, hx, ho, k1, k2, h1, e1, h2])
theorem zq9_op14 (h : zq9_at S I R T X M x0 L i) (ho : zi_and (I x0 i) 31 = 14) : zq9_go d w S I R T X M x0 i := by
  obtain ⟨h4, hx, hq, ⟨i0, i1, i2⟩, hr⟩ := h
  have hz : zz_ok (d + 11) S I R T X M 120 209 [.inl (I x0 (i + 1))] := zz_step h4
  obtain ⟨v, J, R1, K, h1, h2, h3⟩ := hz
  have e1 : J x0 = I x0 := zk_keeps h1 (by rw [hx]) hq
  have e2 : K x0 = J x0 := zk_keeps h2 (by rw [hx]) hq
  have k1 : (S X).1 = 10 := h4.1.1.2
  have k2 : (S M).1 = 11 := h4.2.1.1.2
  refine ⟨K, R1, ?_, h3, e2.trans e1⟩
  rw [zk_239_18]
  ((try simp only [zbd_conv]); simp (disch := first | assumption | omega | trivial) only [↓reduceIte, zbd_some, eq_self, Int.reduceEq, Int.reduceLT, Int.reduceLE, and_self, or_true, true_or, or_false, false_or, if_pos, if_neg, if_true, if_false, true_and, and_true, not_true_eq_false, not_false_eq_true, false_and, and_false, Option.bind_some, zq_t, zq_f, zq0, zq1, zw_id, hx, ho, k1, k2, h1, e1, h2])
theorem zq9_op15 (h : zq9_at S I R T X M x0 L i) (ho : zi_and (I x0 i) 31 = 15) : zq9_go d w S I R T X M x0 i := by
  obtain ⟨h4, hx, hq, ⟨i0, i1, i2⟩, hr⟩ := h
  have hz : zz_ok (d + 11) S I R T X M 121 210 [.inl (I x0 (i + 1))] := zz_down h4 (hr (i + 1) (by omega) (by omega))
  obtain ⟨v, J, R1, K, h1, h2, h3⟩ := hz
  have e1 : J x0 = I x0 := zk_keeps h1 (by rw [hx]) hq
  have e2 : K x0 = J x0 := zk_keeps h2 (by rw [hx]) hq
  have k1 : (S X).1 = 10 := h4.1.1.2
  have k2 : (S M).1 = 11 := h4.2.1.1.2
  refine ⟨K, R1, ?_, h3, e2.trans e1⟩
  rw [zk_239_18]
  ((try simp only [zbd_conv]); simp (disch := first | assumption | omega | trivial) only [↓reduceIte, zbd_some, eq_self, Int.reduceEq, Int.reduceLT, Int.reduceLE, and_self, or_true, true_or, or_false, false_or, if_pos, if_neg, if_true, if_false, true_and, and_true, not_true_eq_false, not_false_eq_true, false_and, and_false, Option.bind_some, zq_t, zq_f, zq0, zq1, zw_id, hx, ho, k1, k2, h1, e1, h2])
end ZNv
