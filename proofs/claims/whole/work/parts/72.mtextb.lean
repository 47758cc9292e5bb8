/-! the reference reads a text, to its end -/
section ZMu
variable {d : Nat} {S : zS} {I J K R : zI} {T : Int × Nat} {M n v l f c k x y z r i p m a N b o w t e ind rows : Int} {P Q D s B tp rA cA ceA hA rB : Int → Int}
theorem zl_zero (h : zl_ok n w t m ind s rows rA cA ceA hA rB) (hn : 0 ≤ n) : cA 0 = 0 := by
  obtain ⟨a1, a2, a3, a4, a5, a6, a7, a8, a9⟩ := h
  by_cases g : n = 0
  · subst g
    have : rows = 1 := by omega
    subst this
    rw [a9, show (1 : Int) - 1 = 0 by omega, a2, zl_at_self]
    unfold zl_c0
    rw [if_pos rfl]
  · obtain ⟨b1, b2⟩ := a4 0 (by omega) (by omega)
    have b3 := b2 (by omega)
    obtain ⟨z1, z2, -⟩ := a7 0 (by omega) (by omega) 0 (by omega) (by omega)
    rw [z2, a2, zl_at_self]
    unfold zl_c0
    rw [if_pos rfl]
theorem zl_settle0 (h : zl_settle P w t m e v c) (hn : 0 ≤ P (1 + P 518)) (hp : P 519 = 0) : v = 0 ∧ c = 0 := by
  obtain ⟨rows, rA, cA, ceA, hA, rB, h1, ⟨n1, n2, n3, n4⟩, h3⟩ := h
  rw [hp] at n1 n4
  have v0 : v = 0 := by
    by_cases g : v = 0
    · exact g
    · exact absurd (Or.inl rfl) (n4 0 (by omega) (by omega))
  rw [v0] at h3
  exact ⟨v0, h3.trans (zl_zero h1 hn)⟩
theorem zt_byte_nn {q : zT4} : 0 ≤ (zt_byte c q).1 := by
  unfold zt_byte
  by_cases hs : zf_sign c
  · rw [zt_if_t hs]
    split
    · show (0 : Int) ≤ 2; omega
    · exact Int.le_refl _
  · rw [zt_if_f hs]
    split
    · split
      · show (0 : Int) ≤ 3; omega
      · exact Int.le_refl _
    · split
      · split
        · show (0 : Int) ≤ 4; omega
        · exact Int.le_refl _
      · split
        · split
          · show (0 : Int) ≤ 5; omega
          · by_cases g : q.2.1 (q.2.2.1 - 1) < q.1 0 - 1 ∧ ¬ zt_ag q.1 (q.2.1 (q.2.2.1 - 1)) (q.1 0 - 1)
            · rw [zt_if_t g]; exact Int.le_refl _
            · rw [zt_if_f g]; show (0 : Int) ≤ 5; omega
        · show (0 : Int) ≤ 1; omega
theorem zt_res_uniq {v v' p p' : Int} (h : zt_res tp n v p) (h' : zt_res tp n v' p') : v = v' ∧ p = p' := by
  rcases h with ⟨i, i1, i2, i3, i4, i5⟩ | ⟨h1, h2, h3⟩ <;> rcases h' with ⟨j, j1, j2, j3, j4, j5⟩ | ⟨g1, g2, g3⟩
  · have e : i = j := by
      rcases Nat.lt_trichotomy i j with q | q | q
      · exact absurd (j2 i q) i3
      · exact q
      · exact absurd (i2 j q) j3
    subst e
    exact ⟨i4.trans j4.symm, i5.trans j5.symm⟩
  · exact absurd (g1 i i1) i3
  · exact absurd (h1 j j1) j3
  · exact ⟨h3.trans g3.symm, h2.trans g2.symm⟩
theorem zt_res_nn {v p : Int} (h : zt_res tp n v p) (hn : 0 ≤ n) : 0 ≤ v ∧ 0 ≤ p ∧ p ≤ n := by
  rcases h with ⟨i, i1, i2, i3, i4, i5⟩ | ⟨h1, h2, h3⟩
  · have : 0 ≤ zt_flt tp i := zt_byte_nn
    omega
  · refine ⟨?_, by omega, by omega⟩
    rw [h3]
    split <;> omega
/-- what the reading of a text may change -/
def zo_tn (I J : zI) (M : Int) : Prop := (∀ x, x ≠ M → x ≠ M + 2 → x ≠ M + 6 → J x = I x) ∧ ∀ j, j ≠ 13 → j ≠ 15 → j ≠ 16 → J M j = I M j
theorem zy_reads (hm : zs_mo S R M) (hn : 0 ≤ n ∧ n ≤ 400) : ∀ (u k : Nat) (w : Nat) (I : zI), (u : Int) + k = n → u + 700 < w → I M 12 = n → (∀ j, 0 ≤ j → j < n → I (M + 5) j = tp j) → I M 13 = 0 → (∀ j : Nat, j < k → zt_flt tp j = 0) → zv_tm I M (zt_iter tp k) → ∃ J v pl w2, zi_run zt_172 (zG (d + 5)) w 46 [some (.inr (.inr M)), some (.inl (k : Int)), none] [] (S, I, R, T) = zi_run zt_172 (zG (d + 5)) w2 113 [some (.inr (.inr M)), some (.inl pl), none] [] (S, J, R, T) ∧ 600 < w2 ∧ zo_tn I J M ∧ J M 13 = v ∧ zt_res tp n v pl ∧ (v = 0 → zt_eq (J (M + 2)) (zt_iter tp n.toNat).1) := by
  have h1 := zmo_1 hm
  intro u
  induction u with
  | zero =>
    intro k w I k1 k2 h12 htp h13 hz ht
    obtain ⟨w, rfl⟩ : ∃ w', w = w' + 1 := ⟨w - 1, by omega⟩
    have kn : (k : Int) = n := by omega
    obtain ⟨t0, t1, t2, t3⟩ := id ht
    rw [zk_172_46]
    by_cases g : 0 < (zt_iter tp k).2.2.1
    · refine ⟨zi_up I M 13 6, 6, n, w, ?_, by omega, ⟨fun x x1 x2 x3 => zu_off x1, fun j j1 _ _ => zu_ne (by omega)⟩, zu_eq ⟨rfl, rfl⟩, Or.inr ⟨fun j hj => hz j (by omega), rfl, ?_⟩, fun q => by omega⟩
      · rw [kn]
        ((try simp only [zbd_conv]); simp (disch := first | assumption | omega | trivial) only [↓reduceIte, zbd_some, eq_self, Int.reduceEq, Int.reduceLT, Int.reduceLE, and_self, or_true, true_or, or_false, false_or, if_pos, if_neg, if_true, if_false, true_and, and_true, not_true_eq_false, not_false_eq_true, false_and, and_false, Option.bind_some, zq_t, zq_f, zq0, zq1, zw_id, h1, h12, h13, t1, zwr])
      · rw [show n.toNat = k by omega, if_pos g]
    · refine ⟨I, 0, n, w, ?_, by omega, ⟨fun _ _ _ _ => rfl, fun _ _ _ _ => rfl⟩, h13, Or.inr ⟨fun j hj => hz j (by omega), rfl, ?_⟩, fun _ => by rw [show n.toNat = k by omega]; exact t0⟩
      · rw [kn]
        ((try simp only [zbd_conv]); simp (disch := first | assumption | omega | trivial) only [↓reduceIte, zbd_some, eq_self, Int.reduceEq, Int.reduceLT, Int.reduceLE, and_self, or_true, true_or, or_false, false_or, if_pos, if_neg, if_true, if_false, true_and, and_true, not_true_eq_false, not_false_eq_true, false_and, and_false, Option.bind_some, zq_t, zq_f, zq0, zq1, zw_id, h1, h12, h13, t1, zwr])
      · rw [show n.toNat = k by omega, if_neg g]
  | succ u ih =>
    intro k w I k1 k2 h12 htp h13 hz ht
    obtain ⟨w, rfl⟩ : ∃ w', w = w' + 1 + 1 := ⟨w - 2, by omega⟩
    obtain ⟨J, b1, b2, b3, b4⟩ := zy_fbyte (d := d) (I := I) (T := T) (c := tp k) hm (zw_iter k) ht
    have tk := htp k (by omega) (by omega)
    obtain ⟨v, hv⟩ : ∃ v, (zt_byte (tp k) (zt_iter tp k)).1 = v := ⟨_, rfl⟩
    have fv : zt_flt tp k = v := hv
    rw [hv] at b1
    have j12 : J M 12 = n := by rw [b4 12 (by omega) (by omega), h12]
    have tr : zo_tn I (zi_up J M 13 v) M := ⟨fun x x1 x2 x3 => by rw [zu_off x1]; exact b3 x x1 x2 x3, fun j j1 j2 j3 => by rw [zu_ne (by omega)]; exact b4 j j2 j3⟩
    rw [zk_172_46]
    by_cases g : v = 0
    · obtain ⟨L, v', pl, w2, c1, c2, c3, c4, c5, c6⟩ := ih (k + 1) (w + 1) (zi_up J M 13 v) (by omega) (by omega) (by rw [zu_ne (by omega), j12]) (fun j j1 j2 => by rw [zu_off (by omega), b3 _ (by omega) (by omega) (by omega)]; exact htp j j1 j2) (by rw [zu_eq ⟨rfl, rfl⟩, g]) (fun j hj => by
        by_cases q : j = k
        · rw [q, fv, g]
        · exact hz j (by omega)) (by
        obtain ⟨t0, t1, t2, t3⟩ := b2
        exact ⟨by rw [zu_off (by omega)]; exact t0, by rw [zu_ne (by omega)]; exact t1, by rw [zu_ne (by omega)]; exact t2, fun j j1 j2 => by rw [zu_off (by omega)]; exact t3 j j1 j2⟩)
      refine ⟨L, v', pl, w2, ?_, c2, ⟨fun x x1 x2 x3 => (c3.1 x x1 x2 x3).trans (tr.1 x x1 x2 x3), fun j j1 j2 j3 => (c3.2 j j1 j2 j3).trans (tr.2 j j1 j2 j3)⟩, c4, c5, c6⟩
      rw [← c1, show ((k + 1 : Nat) : Int) = (k : Int) + 1 by omega]
      subst g
      ((try simp only [zbd_conv]); simp (disch := first | assumption | omega | trivial) only [↓reduceIte, zbd_some, eq_self, Int.reduceEq, Int.reduceLT, Int.reduceLE, and_self, or_true, true_or, or_false, false_or, if_pos, if_neg, if_true, if_false, true_and, and_true, not_true_eq_false, not_false_eq_true, false_and, and_false, Option.bind_some, zq_t, zq_f, zq0, zq1, zw_id, h1, h12, h13, zmo_r11 hm, zmo_s5 hm, tk, b1, zwr, zu_eq])
    · refine ⟨zi_up J M 13 v, v, k, w, ?_, by omega, tr, zu_eq ⟨rfl, rfl⟩, Or.inl ⟨k, by omega, hz, by rw [fv]; exact g, fv.symm, rfl⟩, fun q => absurd q g⟩
      have e0 : zi_up J M 13 v M 12 = n := by rw [zu_ne (by omega), j12]
      have e1 : zi_up J M 13 v M 13 = v := zu_eq ⟨rfl, rfl⟩
      ((try simp only [zbd_conv]); simp (disch := first | assumption | omega | trivial) only [↓reduceIte, zbd_some, eq_self, Int.reduceEq, Int.reduceLT, Int.reduceLE, and_self, or_true, true_or, or_false, false_or, if_pos, if_neg, if_true, if_false, true_and, and_true, not_true_eq_false, not_false_eq_true, false_and, and_false, Option.bind_some, zq_t, zq_f, zq0, zq1, zw_id, h1, h12, h13, zmo_r11 hm, zmo_s5 hm, tk, b1, zwr, e1, Int.add_zero])
      rw [zk_172_46]
      ((try simp only [zbd_conv]); simp (disch := first | assumption | omega | trivial) only [↓reduceIte, zbd_some, eq_self, Int.reduceEq, Int.reduceLT, Int.reduceLE, and_self, or_true, true_or, or_false, false_or, if_pos, if_neg, if_true, if_false, true_and, and_true, not_true_eq_false, not_false_eq_true, false_and, and_false, Option.bind_some, zq_t, zq_f, zq0, zq1, zw_id, h1, e0, e1])
end ZMu
