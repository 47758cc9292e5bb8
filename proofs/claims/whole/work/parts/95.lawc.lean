/-! the steps of the law, the last -/
section ZNv
variable {d w : Nat} {S : zS} {I R : zI} {T : Int × Nat} {X M x0 L i : Int}
theorem zq9_op16 (h : zq9_at S I R T X M x0 L i) (ho : zi_and (I x0 i) 31 = 16) : zq9_go d w S I R T X M x0 i := by
  obtain ⟨h4, hx, hq, ⟨i0, i1, i2⟩, hr⟩ := h
  have hz : zz_ok (d + 11) S I R T X M 122 211 [.inl (I x0 (i + 1))] := zz_edge h4
  obtain ⟨v, J, R1, K, h1, h2, h3⟩ := hz
  have e1 : J x0 = I x0 := zk_keeps h1 (by rw [hx]) hq
  have e2 : K x0 = J x0 := zk_keeps h2 (by rw [hx]) hq
  have k1 : (S X).1 = 10 := h4.1.1.2
  have k2 : (S M).1 = 11 := h4.2.1.1.2
  refine ⟨K, R1, ?_, h3, e2.trans e1⟩
  rw [zk_239_18]
  ((try simp only [zbd_conv]); simp (disch := first | assumption | omega | trivial) only [↓reduceIte, zbd_some, eq_self, Int.reduceEq, Int.reduceLT, Int.reduceLE, and_self, or_true, true_or, or_false, false_or, if_pos, if_neg, if_true, if_false, true_and, and_true, not_true_eq_false, not_false_eq_true, false_and, and_false, Option.bind_some, zq_t, zq_f, zq0, zq1, zw_id, hx, ho, k1, k2, h1, e1, h2])
theorem zq9_op17 (h : zq9_at S I R T X M x0 L i) (ho : zi_and (I x0 i) 31 = 17) : zq9_go d w S I R T X M x0 i := by
  obtain ⟨h4, hx, hq, ⟨i0, i1, i2⟩, hr⟩ := h
  have hz : zz_ok (d + 11) S I R T X M 123 216 [.inl (I x0 (i + 1))] := zz_type h4
  obtain ⟨v, J, R1, K, h1, h2, h3⟩ := hz
  have e1 : J x0 = I x0 := zk_keeps h1 (by rw [hx]) hq
  have e2 : K x0 = J x0 := zk_keeps h2 (by rw [hx]) hq
  have k1 : (S X).1 = 10 := h4.1.1.2
  have k2 : (S M).1 = 11 := h4.2.1.1.2
  refine ⟨K, R1, ?_, h3, e2.trans e1⟩
  rw [zk_239_18]
  ((try simp only [zbd_conv]); simp (disch := first | assumption | omega | trivial) only [↓reduceIte, zbd_some, eq_self, Int.reduceEq, Int.reduceLT, Int.reduceLE, and_self, or_true, true_or, or_false, false_or, if_pos, if_neg, if_true, if_false, true_and, and_true, not_true_eq_false, not_false_eq_true, false_and, and_false, Option.bind_some, zq_t, zq_f, zq0, zq1, zw_id, hx, ho, k1, k2, h1, e1, h2])
theorem zq9_op18 (h : zq9_at S I R T X M x0 L i) (ho : zi_and (I x0 i) 31 = 18) : zq9_go d w S I R T X M x0 i := by
  obtain ⟨h4, hx, hq, ⟨i0, i1, i2⟩, hr⟩ := h
  have hz : zz_ok (d + 11) S I R T X M 124 221 [] := zz_erase h4
  obtain ⟨v, J, R1, K, h1, h2, h3⟩ := hz
  have e1 : J x0 = I x0 := zk_keeps h1 (by rw [hx]) hq
  have e2 : K x0 = J x0 := zk_keeps h2 (by rw [hx]) hq
  have k1 : (S X).1 = 10 := h4.1.1.2
  have k2 : (S M).1 = 11 := h4.2.1.1.2
  refine ⟨K, R1, ?_, h3, e2.trans e1⟩
  rw [zk_239_18]
  ((try simp only [zbd_conv]); simp (disch := first | assumption | omega | trivial) only [↓reduceIte, zbd_some, eq_self, Int.reduceEq, Int.reduceLT, Int.reduceLE, and_self, or_true, true_or, or_false, false_or, if_pos, if_neg, if_true, if_false, true_and, and_true, not_true_eq_false, not_false_eq_true, false_and, and_false, Option.bind_some, zq_t, zq_f, zq0, zq1, zw_id, hx, ho, k1, k2, h1, e1, h2])
theorem zq9_op19 (h : zq9_at S I R T X M x0 L i) (ho : zi_and (I x0 i) 31 = 19) : zq9_go d w S I R T X M x0 i := by
  obtain ⟨h4, hx, hq, ⟨i0, i1, i2⟩, hr⟩ := h
  have hz : zz_ok (d + 11) S I R T X M 125 223 [] := zz_split h4
  obtain ⟨v, J, R1, K, h1, h2, h3⟩ := hz
  have e1 : J x0 = I x0 := zk_keeps h1 (by rw [hx]) hq
  have e2 : K x0 = J x0 := zk_keeps h2 (by rw [hx]) hq
  have k1 : (S X).1 = 10 := h4.1.1.2
  have k2 : (S M).1 = 11 := h4.2.1.1.2
  refine ⟨K, R1, ?_, h3, e2.trans e1⟩
  rw [zk_239_18]
  ((try simp only [zbd_conv]); simp (disch := first | assumption | omega | trivial) only [↓reduceIte, zbd_some, eq_self, Int.reduceEq, Int.reduceLT, Int.reduceLE, and_self, or_true, true_or, or_false, false_or, if_pos, if_neg, if_true, if_false, true_and, and_true, not_true_eq_false, not_false_eq_true, false_and, and_false, Option.bind_some, zq_t, zq_f, zq0, zq1, zw_id, hx, ho, k1, k2, h1, e1, h2])
theorem zq9_op20 (h : zq9_at S I R T X M x0 L i) (ho : zi_and (I x0 i) 31 = 20) : zq9_go d w S I R T X M x0 i := by
  obtain ⟨h4, hx, hq, ⟨i0, i1, i2⟩, hr⟩ := h
  have hz : zz_ok (d + 11) S I R T X M 126 224 [] := zz_undo h4
  obtain ⟨v, J, R1, K, h1, h2, h3⟩ := hz
  have e1 : J x0 = I x0 := zk_keeps h1 (by rw [hx]) hq
  have e2 : K x0 = J x0 := zk_keeps h2 (by rw [hx]) hq
  have k1 : (S X).1 = 10 := h4.1.1.2
  have k2 : (S M).1 = 11 := h4.2.1.1.2
  refine ⟨K, R1, ?_, h3, e2.trans e1⟩
  rw [zk_239_18]
  ((try simp only [zbd_conv]); simp (disch := first | assumption | omega | trivial) only [↓reduceIte, zbd_some, eq_self, Int.reduceEq, Int.reduceLT, Int.reduceLE, and_self, or_true, true_or, or_false, false_or, if_pos, if_neg, if_true, if_false, true_and, and_true, not_true_eq_false, not_false_eq_true, false_and, and_false, Option.bind_some, zq_t, zq_f, zq0, zq1, zw_id, hx, ho, k1, k2, h1, e1, h2])
theorem zq9_op21 (h : zq9_at S I R T X M x0 L i) (ho : zi_and (I x0 i) 31 = 21) : zq9_go d w S I R T X M x0 i := by
  obtain ⟨h4, hx, hq, ⟨i0, i1, i2⟩, hr⟩ := h
  have hz : zz_ok (d + 11) S I R T X M 127 225 [] := zz_redo h4
  obtain ⟨v, J, R1, K, h1, h2, h3⟩ := hz
  have e1 : J x0 = I x0 := zk_keeps h1 (by rw [hx]) hq
  have e2 : K x0 = J x0 := zk_keeps h2 (by rw [hx]) hq
  have k1 : (S X).1 = 10 := h4.1.1.2
  have k2 : (S M).1 = 11 := h4.2.1.1.2
  refine ⟨K, R1, ?_, h3, e2.trans e1⟩
  rw [zk_239_18]
  ((try simp only [zbd_conv]); simp (disch := first | assumption | omega | trivial) only [↓reduceIte, zbd_some, eq_self, Int.reduceEq, Int.reduceLT, Int.reduceLE, and_self, or_true, true_or, or_false, false_or, if_pos, if_neg, if_true, if_false, true_and, and_true, not_true_eq_false, not_false_eq_true, false_and, and_false, Option.bind_some, zq_t, zq_f, zq0, zq1, zw_id, hx, ho, k1, k2, h1, e1, h2])
theorem zq9_op22 (h : zq9_at S I R T X M x0 L i) (ho : zi_and (I x0 i) 31 = 22) : zq9_go d w S I R T X M x0 i := by
  obtain ⟨h4, hx, hq, ⟨i0, i1, i2⟩, hr⟩ := h
  have hz : zz_ok (d + 11) S I R T X M 128 226 [.inl (I x0 (i + 1)), .inl (I x0 (i + 2))] := zz_wrap h4
  obtain ⟨v, J, R1, K, h1, h2, h3⟩ := hz
  have e1 : J x0 = I x0 := zk_keeps h1 (by rw [hx]) hq
  have e2 : K x0 = J x0 := zk_keeps h2 (by rw [hx]) hq
  have k1 : (S X).1 = 10 := h4.1.1.2
  have k2 : (S M).1 = 11 := h4.2.1.1.2
  refine ⟨K, R1, ?_, h3, e2.trans e1⟩
  rw [zk_239_18]
  ((try simp only [zbd_conv]); simp (disch := first | assumption | omega | trivial) only [↓reduceIte, zbd_some, eq_self, Int.reduceEq, Int.reduceLT, Int.reduceLE, and_self, or_true, true_or, or_false, false_or, if_pos, if_neg, if_true, if_false, true_and, and_true, not_true_eq_false, not_false_eq_true, false_and, and_false, Option.bind_some, zq_t, zq_f, zq0, zq1, zw_id, hx, ho, k1, k2, h1, e1, h2])
theorem zq9_op23 (h : zq9_at S I R T X M x0 L i) (ho : zi_and (I x0 i) 31 = 23) : zq9_go d w S I R T X M x0 i := by
  obtain ⟨h4, hx, hq, ⟨i0, i1, i2⟩, hr⟩ := h
  have hz : zz_ok (d + 11) S I R T X M 129 228 [.inl (I x0 (i + 1)), .inl (I x0 (i + 2))] := zz_shut h4
  obtain ⟨v, J, R1, K, h1, h2, h3⟩ := hz
  have e1 : J x0 = I x0 := zk_keeps h1 (by rw [hx]) hq
  have e2 : K x0 = J x0 := zk_keeps h2 (by rw [hx]) hq
  have k1 : (S X).1 = 10 := h4.1.1.2
  have k2 : (S M).1 = 11 := h4.2.1.1.2
  refine ⟨K, R1, ?_, h3, e2.trans e1⟩
  rw [zk_239_18]
  ((try simp only [zbd_conv]); simp (disch := first | assumption | omega | trivial) only [↓reduceIte, zbd_some, eq_self, Int.reduceEq, Int.reduceLT, Int.reduceLE, and_self, or_true, true_or, or_false, false_or, if_pos, if_neg, if_true, if_false, true_and, and_true, not_true_eq_false, not_false_eq_true, false_and, and_false, Option.bind_some, zq_t, zq_f, zq0, zq1, zw_id, hx, ho, k1, k2, h1, e1, h2])
theorem zq9_op24 (h : zq9_at S I R T X M x0 L i) (ho : zi_and (I x0 i) 31 = 24) : zq9_go d w S I R T X M x0 i := by
  obtain ⟨h4, hx, hq, ⟨i0, i1, i2⟩, hr⟩ := h
  have hz : zz_ok (d + 11) S I R T X M 130 229 [.inl (I x0 (i + 1))] := zz_unwrap h4
  obtain ⟨v, J, R1, K, h1, h2, h3⟩ := hz
  have e1 : J x0 = I x0 := zk_keeps h1 (by rw [hx]) hq
  have e2 : K x0 = J x0 := zk_keeps h2 (by rw [hx]) hq
  have k1 : (S X).1 = 10 := h4.1.1.2
  have k2 : (S M).1 = 11 := h4.2.1.1.2
  refine ⟨K, R1, ?_, h3, e2.trans e1⟩
  rw [zk_239_18]
  ((try simp only [zbd_conv]); simp (disch := first | assumption | omega | trivial) only [↓reduceIte, zbd_some, eq_self, Int.reduceEq, Int.reduceLT, Int.reduceLE, and_self, or_true, true_or, or_false, false_or, if_pos, if_neg, if_true, if_false, true_and, and_true, not_true_eq_false, not_false_eq_true, false_and, and_false, Option.bind_some, zq_t, zq_f, zq0, zq1, zw_id, hx, ho, k1, k2, h1, e1, h2])
theorem zq9_op25 (h : zq9_at S I R T X M x0 L i) (ho : zi_and (I x0 i) 31 = 25) : zq9_go d w S I R T X M x0 i := by
  obtain ⟨h4, hx, hq, ⟨i0, i1, i2⟩, hr⟩ := h
  have hz : zz_ok (d + 11) S I R T X M 131 232 [.inl (I x0 (i + 1)), .inl (I x0 (i + 2))] := zz_set h4
  obtain ⟨v, J, R1, K, h1, h2, h3⟩ := hz
  have e1 : J x0 = I x0 := zk_keeps h1 (by rw [hx]) hq
  have e2 : K x0 = J x0 := zk_keeps h2 (by rw [hx]) hq
  have k1 : (S X).1 = 10 := h4.1.1.2
  have k2 : (S M).1 = 11 := h4.2.1.1.2
  refine ⟨K, R1, ?_, h3, e2.trans e1⟩
  rw [zk_239_18]
  ((try simp only [zbd_conv]); simp (disch := first | assumption | omega | trivial) only [↓reduceIte, zbd_some, eq_self, Int.reduceEq, Int.reduceLT, Int.reduceLE, and_self, or_true, true_or, or_false, false_or, if_pos, if_neg, if_true, if_false, true_and, and_true, not_true_eq_false, not_false_eq_true, false_and, and_false, Option.bind_some, zq_t, zq_f, zq0, zq1, zw_id, hx, ho, k1, k2, h1, e1, h2])
theorem zq9_op26 (h : zq9_at S I R T X M x0 L i) (ho : zi_and (I x0 i) 31 = 26) : zq9_go d w S I R T X M x0 i := by
  obtain ⟨h4, hx, hq, ⟨i0, i1, i2⟩, hr⟩ := h
  have hz : zz_ok (d + 11) S I R T X M 132 233 [.inl (I x0 (i + 1))] := zz_keep h4
  obtain ⟨v, J, R1, K, h1, h2, h3⟩ := hz
  have e1 : J x0 = I x0 := zk_keeps h1 (by rw [hx]) hq
  have e2 : K x0 = J x0 := zk_keeps h2 (by rw [hx]) hq
  have k1 : (S X).1 = 10 := h4.1.1.2
  have k2 : (S M).1 = 11 := h4.2.1.1.2
  refine ⟨K, R1, ?_, h3, e2.trans e1⟩
  rw [zk_239_18]
  ((try simp only [zbd_conv]); simp (disch := first | assumption | omega | trivial) only [↓reduceIte, zbd_some, eq_self, Int.reduceEq, Int.reduceLT, Int.reduceLE, and_self, or_true, true_or, or_false, false_or, if_pos, if_neg, if_true, if_false, true_and, and_true, not_true_eq_false, not_false_eq_true, false_and, and_false, Option.bind_some, zq_t, zq_f, zq0, zq1, zw_id, hx, ho, k1, k2, h1, e1, h2])
theorem zq9_op27 (h : zq9_at S I R T X M x0 L i) (ho : zi_and (I x0 i) 31 = 27) : zq9_go d w S I R T X M x0 i := by
  obtain ⟨h4, hx, hq, ⟨i0, i1, i2⟩, hr⟩ := h
  have hz : zz_ok (d + 11) S I R T X M 133 234 [.inl (I x0 (i + 1))] := zz_back h4
  obtain ⟨v, J, R1, K, h1, h2, h3⟩ := hz
  have e1 : J x0 = I x0 := zk_keeps h1 (by rw [hx]) hq
  have e2 : K x0 = J x0 := zk_keeps h2 (by rw [hx]) hq
  have k1 : (S X).1 = 10 := h4.1.1.2
  have k2 : (S M).1 = 11 := h4.2.1.1.2
  refine ⟨K, R1, ?_, h3, e2.trans e1⟩
  rw [zk_239_18]
  ((try simp only [zbd_conv]); simp (disch := first | assumption | omega | trivial) only [↓reduceIte, zbd_some, eq_self, Int.reduceEq, Int.reduceLT, Int.reduceLE, and_self, or_true, true_or, or_false, false_or, if_pos, if_neg, if_true, if_false, true_and, and_true, not_true_eq_false, not_false_eq_true, false_and, and_false, Option.bind_some, zq_t, zq_f, zq0, zq1, zw_id, hx, ho, k1, k2, h1, e1, h2])
theorem zq9_op28 (h : zq9_at S I R T X M x0 L i) (ho : zi_and (I x0 i) 31 = 28) : zq9_go d w S I R T X M x0 i := by
  obtain ⟨h4, hx, hq, ⟨i0, i1, i2⟩, hr⟩ := h
  have hz : zz_ok (d + 11) S I R T X M 134 236 [.inl (I x0 (i + 1)), .inl (I x0 (i + 2)), .inl (I x0 (i + 3))] := zz_sheet h4
  obtain ⟨v, J, R1, K, h1, h2, h3⟩ := hz
  have e1 : J x0 = I x0 := zk_keeps h1 (by rw [hx]) hq
  have e2 : K x0 = J x0 := zk_keeps h2 (by rw [hx]) hq
  have k1 : (S X).1 = 10 := h4.1.1.2
  have k2 : (S M).1 = 11 := h4.2.1.1.2
  refine ⟨K, R1, ?_, h3, e2.trans e1⟩
  rw [zk_239_18]
  ((try simp only [zbd_conv]); simp (disch := first | assumption | omega | trivial) only [↓reduceIte, zbd_some, eq_self, Int.reduceEq, Int.reduceLT, Int.reduceLE, and_self, or_true, true_or, or_false, false_or, if_pos, if_neg, if_true, if_false, true_and, and_true, not_true_eq_false, not_false_eq_true, false_and, and_false, Option.bind_some, zq_t, zq_f, zq0, zq1, zw_id, hx, ho, k1, k2, h1, e1, h2])
theorem zq9_op29 (h : zq9_at S I R T X M x0 L i) (ho : zi_and (I x0 i) 31 = 29) : zq9_go d w S I R T X M x0 i := by
  obtain ⟨h4, hx, hq, ⟨i0, i1, i2⟩, hr⟩ := h
  have hz : zz_ok (d + 11) S I R T X M 135 237 [.inl (I x0 (i + 1)), .inl (I x0 (i + 2)), .inl (I x0 (i + 3))] := zz_lay h4
  obtain ⟨v, J, R1, K, h1, h2, h3⟩ := hz
  have e1 : J x0 = I x0 := zk_keeps h1 (by rw [hx]) hq
  have e2 : K x0 = J x0 := zk_keeps h2 (by rw [hx]) hq
  have k1 : (S X).1 = 10 := h4.1.1.2
  have k2 : (S M).1 = 11 := h4.2.1.1.2
  refine ⟨K, R1, ?_, h3, e2.trans e1⟩
  rw [zk_239_18]
  ((try simp only [zbd_conv]); simp (disch := first | assumption | omega | trivial) only [↓reduceIte, zbd_some, eq_self, Int.reduceEq, Int.reduceLT, Int.reduceLE, and_self, or_true, true_or, or_false, false_or, if_pos, if_neg, if_true, if_false, true_and, and_true, not_true_eq_false, not_false_eq_true, false_and, and_false, Option.bind_some, zq_t, zq_f, zq0, zq1, zw_id, hx, ho, k1, k2, h1, e1, h2])
theorem zq9_op30 (h : zq9_at S I R T X M x0 L i) (ho : zi_and (I x0 i) 31 = 30) : zq9_go d w S I R T X M x0 i := by
  obtain ⟨h4, hx, hq, ⟨i0, i1, i2⟩, hr⟩ := h
  have hz : zz_ok (d + 11) S I R T X M 136 238 [.inl (I x0 (i + 1)), .inl (I x0 (i + 2)), .inl (I x0 (i + 3)), .inl (I x0 (i + 4))] := zz_paste h4 (hr (i + 3) (by omega) (by omega))
  obtain ⟨v, J, R1, K, h1, h2, h3⟩ := hz
  have e1 : J x0 = I x0 := zk_keeps h1 (by rw [hx]) hq
  have e2 : K x0 = J x0 := zk_keeps h2 (by rw [hx]) hq
  have k1 : (S X).1 = 10 := h4.1.1.2
  have k2 : (S M).1 = 11 := h4.2.1.1.2
  refine ⟨K, R1, ?_, h3, e2.trans e1⟩
  rw [zk_239_18]
  ((try simp only [zbd_conv]); simp (disch := first | assumption | omega | trivial) only [↓reduceIte, zbd_some, eq_self, Int.reduceEq, Int.reduceLT, Int.reduceLE, and_self, or_true, true_or, or_false, false_or, if_pos, if_neg, if_true, if_false, true_and, and_true, not_true_eq_false, not_false_eq_true, false_and, and_false, Option.bind_some, zq_t, zq_f, zq0, zq1, zw_id, hx, ho, k1, k2, h1, e1, h2])
theorem zq9_opx (h : zq9_at S I R T X M x0 L i) (n0 : ¬ zi_and (I x0 i) 31 = 0) (n1 : ¬ zi_and (I x0 i) 31 = 1) (n2 : ¬ zi_and (I x0 i) 31 = 2) (n3 : ¬ zi_and (I x0 i) 31 = 3) (n4 : ¬ zi_and (I x0 i) 31 = 4) (n5 : ¬ zi_and (I x0 i) 31 = 5) (n6 : ¬ zi_and (I x0 i) 31 = 6) (n7 : ¬ zi_and (I x0 i) 31 = 7) (n8 : ¬ zi_and (I x0 i) 31 = 8) (n9 : ¬ zi_and (I x0 i) 31 = 9) (n10 : ¬ zi_and (I x0 i) 31 = 10) (n11 : ¬ zi_and (I x0 i) 31 = 11) (n12 : ¬ zi_and (I x0 i) 31 = 12) (n13 : ¬ zi_and (I x0 i) 31 = 13) (n14 : ¬ zi_and (I x0 i) 31 = 14) (n15 : ¬ zi_and (I x0 i) 31 = 15) (n16 : ¬ zi_and (I x0 i) 31 = 16) (n17 : ¬ zi_and (I x0 i) 31 = 17) (n18 : ¬ zi_and (I x0 i) 31 = 18) (n19 : ¬ zi_and (I x0 i) 31 = 19) (n20 : ¬ zi_and (I x0 i) 31 = 20) (n21 : ¬ zi_and (I x0 i) 31 = 21) (n22 : ¬ zi_and (I x0 i) 31 = 22) (n23 : ¬ zi_and (I x0 i) 31 = 23) (n24 : ¬ zi_and (I x0 i) 31 = 24) (n25 : ¬ zi_and (I x0 i) 31 = 25) (n26 : ¬ zi_and (I x0 i) 31 = 26) (n27 : ¬ zi_and (I x0 i) 31 = 27) (n28 : ¬ zi_and (I x0 i) 31 = 28) (n29 : ¬ zi_and (I x0 i) 31 = 29) (n30 : ¬ zi_and (I x0 i) 31 = 30) : zq9_go d w S I R T X M x0 i := by
  obtain ⟨h4, hx, hq, ⟨i0, i1, i2⟩, hr⟩ := h
  refine ⟨I, R, ?_, h4, rfl⟩
  rw [zk_239_18]
  ((try simp only [zbd_conv]); simp (disch := first | assumption | omega | trivial) only [↓reduceIte, zbd_some, eq_self, Int.reduceEq, Int.reduceLT, Int.reduceLE, and_self, or_true, true_or, or_false, false_or, if_pos, if_neg, if_true, if_false, true_and, and_true, not_true_eq_false, not_false_eq_true, false_and, and_false, Option.bind_some, zq_t, zq_f, zq0, zq1, zw_id, hx, n0, n1, n2, n3, n4, n5, n6, n7, n8, n9, n10, n11, n12, n13, n14, n15, n16, n17, n18, n19, n20, n21, n22, n23, n24, n25, n26, n27, n28, n29, n30])
theorem zq9_step (h : zq9_at S I R T X M x0 L i) : zq9_go d w S I R T X M x0 i := by
  by_cases n0 : zi_and (I x0 i) 31 = 0
  · exact zq9_op0 h n0
  by_cases n1 : zi_and (I x0 i) 31 = 1
  · exact zq9_op1 h n1
  by_cases n2 : zi_and (I x0 i) 31 = 2
  · exact zq9_op2 h n2
  by_cases n3 : zi_and (I x0 i) 31 = 3
  · exact zq9_op3 h n3
  by_cases n4 : zi_and (I x0 i) 31 = 4
  · exact zq9_op4 h n4
  by_cases n5 : zi_and (I x0 i) 31 = 5
  · exact zq9_op5 h n5
  by_cases n6 : zi_and (I x0 i) 31 = 6
  · exact zq9_op6 h n6
  by_cases n7 : zi_and (I x0 i) 31 = 7
  · exact zq9_op7 h n7
  by_cases n8 : zi_and (I x0 i) 31 = 8
  · exact zq9_op8 h n8
  by_cases n9 : zi_and (I x0 i) 31 = 9
  · exact zq9_op9 h n9
  by_cases n10 : zi_and (I x0 i) 31 = 10
  · exact zq9_op10 h n10
  by_cases n11 : zi_and (I x0 i) 31 = 11
  · exact zq9_op11 h n11
  by_cases n12 : zi_and (I x0 i) 31 = 12
  · exact zq9_op12 h n12
  by_cases n13 : zi_and (I x0 i) 31 = 13
  · exact zq9_op13 h n13
  by_cases n14 : zi_and (I x0 i) 31 = 14
  · exact zq9_op14 h n14
  by_cases n15 : zi_and (I x0 i) 31 = 15
  · exact zq9_op15 h n15
  by_cases n16 : zi_and (I x0 i) 31 = 16
  · exact zq9_op16 h n16
  by_cases n17 : zi_and (I x0 i) 31 = 17
  · exact zq9_op17 h n17
  by_cases n18 : zi_and (I x0 i) 31 = 18
  · exact zq9_op18 h n18
  by_cases n19 : zi_and (I x0 i) 31 = 19
  · exact zq9_op19 h n19
  by_cases n20 : zi_and (I x0 i) 31 = 20
  · exact zq9_op20 h n20
  by_cases n21 : zi_and (I x0 i) 31 = 21
  · exact zq9_op21 h n21
  by_cases n22 : zi_and (I x0 i) 31 = 22
  · exact zq9_op22 h n22
  by_cases n23 : zi_and (I x0 i) 31 = 23
  · exact zq9_op23 h n23
  by_cases n24 : zi_and (I x0 i) 31 = 24
  · exact zq9_op24 h n24
  by_cases n25 : zi_and (I x0 i) 31 = 25
  · exact zq9_op25 h n25
  by_cases n26 : zi_and (I x0 i) 31 = 26
  · exact zq9_op26 h n26
  by_cases n27 : zi_and (I x0 i) 31 = 27
  · exact zq9_op27 h n27
  by_cases n28 : zi_and (I x0 i) 31 = 28
  · exact zq9_op28 h n28
  by_cases n29 : zi_and (I x0 i) 31 = 29
  · exact zq9_op29 h n29
  by_cases n30 : zi_and (I x0 i) 31 = 30
  · exact zq9_op30 h n30
  exact zq9_opx h n0 n1 n2 n3 n4 n5 n6 n7 n8 n9 n10 n11 n12 n13 n14 n15 n16 n17 n18 n19 n20 n21 n22 n23 n24 n25 n26 n27 n28 n29 n30
theorem zq9_loop : ∀ (n w : Nat) (i : Int) (I R : zI), L < i + 5 * n → n < w → 0 ≤ i → zR4 S I R X M → S x0 = (18, L) → x0 < T.1 → L ≤ 2560 → 0 ≤ L → (∀ j, 0 ≤ j → j < L → zi_ir (I x0 j)) → ∃ K R', zi_run zt_239 (zG (d + 11)) w 18 [some (.inr (.inr x0)), some (.inr (.inr X)), some (.inr (.inr M)), some (.inl i)] [] (S, I, R, T) = some (1, (S, K, R', T)) := by
  intro n
  induction n with
  | zero =>
    intro w i I R a1 a2 a3 h4 hx hq l1 l0 hr
    obtain ⟨w, rfl⟩ : ∃ w', w = w' + 1 := ⟨w - 1, by omega⟩
    refine ⟨I, R, ?_⟩
    rw [zk_239_18]
    ((try simp only [zbd_conv]); simp (disch := first | assumption | omega | trivial) only [↓reduceIte, zbd_some, eq_self, Int.reduceEq, Int.reduceLT, Int.reduceLE, and_self, or_true, true_or, or_false, false_or, if_pos, if_neg, if_true, if_false, true_and, and_true, not_true_eq_false, not_false_eq_true, false_and, and_false, Option.bind_some, zq_t, zq_f, zq0, zq1, zw_id, hx])
  | succ n ih =>
    intro w i I R a1 a2 a3 h4 hx hq l1 l0 hr
    obtain ⟨w, rfl⟩ : ∃ w', w = w' + 1 := ⟨w - 1, by omega⟩
    by_cases g : L - 5 < i
    · refine ⟨I, R, ?_⟩
      rw [zk_239_18]
      ((try simp only [zbd_conv]); simp (disch := first | assumption | omega | trivial) only [↓reduceIte, zbd_some, eq_self, Int.reduceEq, Int.reduceLT, Int.reduceLE, and_self, or_true, true_or, or_false, false_or, if_pos, if_neg, if_true, if_false, true_and, and_true, not_true_eq_false, not_false_eq_true, false_and, and_false, Option.bind_some, zq_t, zq_f, zq0, zq1, zw_id, hx])
    · obtain ⟨K, R1, e1, e2, e3⟩ := zq9_step (d := d) (w := w) (T := T) ⟨h4, hx, hq, ⟨a3, by omega, l1⟩, hr⟩
      obtain ⟨K2, R2, f1⟩ := ih w (i + 5) K R1 (by omega) (by omega) (by omega) e2 hx hq l1 l0 (fun j j1 j2 => by rw [e3]; exact hr j j1 j2)
      exact ⟨K2, R2, e1.trans f1⟩
/-- the law, whole: from any memory whose next cell is c, with a script at x0 -/
theorem zq9_law {c : Int} {t : Nat} (hc : 0 < c) (hx0 : x0 < c) (hx : S x0 = (18, L)) (hL : 0 ≤ L ∧ L ≤ 2560) (hr : ∀ j, 0 ≤ j → j < L → zi_ir (I x0 j)) : ∃ S' I' R' u, zi_run zt_239 (zG (d + 11)) 20000 0 [some (.inr (.inr x0)), none, none, none] [] (S, I, R, (c, t)) = some (1, (S', I', R', (c + 317, t + u))) ∧ u < 200000 := by
  obtain ⟨S1, I1, R1, u, e1, e2, e3, e4⟩ := zn_start (d := d + 3) (S := S) (I := I) (R := R) (c := c) (t := t) (x0 := x0) hc
  obtain ⟨f1, f2, f3⟩ := e4 x0 hx0
  obtain ⟨K, R2, g⟩ := zq9_loop (d := d) (S := S1) (T := (c + 317, t + u)) (X := c) (M := c + 300) (x0 := x0) (L := L) 600 19999 0 I1 R1 (by omega) (by omega) (by omega) e3 (by rw [f1, hx]) (show x0 < c + 317 by omega) hL.2 hL.1 (fun j j1 j2 => by rw [f2]; exact hr j j1 j2)
  exact ⟨S1, K, R2, u, e1.trans g, e2⟩
end ZNv
