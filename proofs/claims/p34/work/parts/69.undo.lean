/-! undo and redo: frames change places -/
section ZUn
variable {d : Nat} {S : zS} {I J J0 J1 J2 K K0 K1 R R' : zI} {T : Int × Nat} {X M n v l f c k x y z r i p w t m e b g len N o u : Int} {P Q s : Int → Int}
theorem zwq' {S : zS} {I R : zI} {T : Int × Nat} {a k v : Int} : zi_wq (S, I, R, T) a k v = (S, I, zi_up R a k v, T) := rfl
theorem zs_cl_swap (h : zs_cl S R X) (hf : R X 6 = f) (hk : 0 ≤ k ∧ k < 16) (hg : R (X + 6) k = g) : zs_cl S (zi_up (zi_up R (X + 6) k f) X 6 g) X := by
  have X0 := h.1.1
  have fa6 := zcl_fa6 h hf
  have fa7 := zcl_fa7 h rfl
  have fas := fun k k1 k2 => zcl_fas (k := k) h ⟨k1, k2⟩
  obtain ⟨n1, n2, n3⟩ := h.2.2.2.2.2.2.2.2.2.2
  rw [hf] at n1 n2
  have e6 : zi_up (zi_up R (X + 6) k f) X 6 g X 6 = g := zu_eq ⟨rfl, rfl⟩
  have e7 : zi_up (zi_up R (X + 6) k f) X 6 g X 7 = R X 7 := by rw [zu_ne (by omega), zu_ne (by omega)]
  have es : ∀ j, j ≠ k → zi_up (zi_up R (X + 6) k f) X 6 g (X + 6) j = R (X + 6) j := fun j hj => by rw [zu_ne (by omega), zu_ne (by omega)]
  have ek : zi_up (zi_up R (X + 6) k f) X 6 g (X + 6) k = f := by rw [zu_ne (by omega), zu_eq ⟨rfl, rfl⟩]
  have gk := n2 k hk.1 hk.2
  rw [hg] at gk
  refine zs_cl_R h (fun q q1 q2 => by rw [zu_off q1, zu_off q2]) (fun j j1 j2 => by rw [zu_ne (by omega), zu_ne (by omega)]) ⟨by rw [e6, ← hg]; exact fas k hk.1 hk.2, by rw [e7]; exact fa7, fun j j1 j2 => ?_⟩ ⟨by rw [e6, e7]; exact gk.2, fun j j1 j2 => ?_, fun i j i1 i2 i3 => ?_⟩
  · by_cases q : j = k
    · rw [q, ek]; exact fa6
    · rw [es j q]; exact fas j j1 j2
  · rw [e6, e7]
    by_cases q : j = k
    · rw [q, ek]; exact ⟨fun q => gk.1 q.symm, n1⟩
    · rw [es j q]
      refine ⟨?_, (n2 j j1 j2).2⟩
      rw [← hg]
      rcases (show j < k ∨ k < j by omega) with q | q
      · exact n3 j k j1 q hk.2
      · exact fun z => n3 k j hk.1 q j2 z.symm
  · by_cases q : i = k
    · rw [q, ek, es j (by omega)]
      exact fun z => (n2 j (by omega) i3).1 z.symm
    · by_cases q2 : j = k
      · rw [q2, ek, es i q]
        exact (n2 i i1 (by omega)).1
      · rw [es i q, es j q2]
        exact n3 i j i1 i2 i3
end ZUn
