/-! rows of the script's kind stay: every method -/
section ZKs
variable {σ : zM} {d : Nat}
theorem zk_kp_cpy {p q s w n : Int} {S : zS} {I R : zI} {T : Int × Nat} (h : (S q).1 ≠ 18) : zk_kp (S, I, R, T) (S, zi_cpy I p q s w n, R, T) := ⟨Int.le_refl _, fun x h1 _ => ⟨rfl, by
  funext j
  exact if_neg (fun e => h (by rw [← e.1]; exact h1))⟩⟩
theorem zk_kr_nat {j : Nat} {vs : List zV} : zk_kr σ (zi_nat j vs σ) := by
  unfold zi_nat
  split
  case h_6 =>
    split
    · rename_i h
      obtain ⟨S, I, R, T⟩ := σ
      intro v σ' e
      cases e
      exact zk_kp_cpy (fun z => absurd (z.symm.trans h.1.2) (by omega))
    · exact zk_kr_none
  all_goals first | exact zk_kr_some | exact zk_kr_none
theorem zk_kr_fr {t : zT} {G : Nat → List zV → zM → zR} {K : Nat → zL → List zV → zM → zR} (hG : ∀ j vs σ, zk_kr σ (G j vs σ)) (hK : ∀ pc ls st σ, zk_kr σ (K pc ls st σ)) : ∀ (n pc : Nat) (ls : zL) (st : List zV) (σ : zM), zk_kr σ (zi_fr t G K n pc ls st σ)
  | 0, _, _, _, _ => zk_kr_none
  | n + 1, pc, ls, st, σ => by
    unfold zi_fr
    refine zk_kr_ex hG (fun pc ls st σ => ?_)
    split
    · exact hK _ _ _ _
    · exact zk_kr_fr hG hK n _ _ _ _
theorem zk_kr_run {t : zT} {G : Nat → List zV → zM → zR} (hG : ∀ j vs σ, zk_kr σ (G j vs σ)) : ∀ (n pc : Nat) (ls : zL) (st : List zV) (σ : zM), zk_kr σ (zi_run t G n pc ls st σ)
  | 0, _, _, _, _ => zk_kr_none
  | n + 1, pc, ls, st, σ => by
    unfold zi_run
    exact zk_kr_fr hG (fun pc ls st σ => zk_kr_run hG n pc ls st σ) 600 pc ls st σ
theorem zk_kr_G {tab : Nat → zT} : ∀ (d j : Nat) (vs : List zV) (σ : zM), zk_kr σ (zi_G tab d j vs σ)
  | 0, _, _, _ => zk_kr_none
  | d + 1, j, vs, σ => by
    unfold zi_G
    exact zk_kr_cond zk_kr_nat (zk_kr_cond (zk_kr_run (fun j vs σ => zk_kr_G d j vs σ) 20000 0 _ [] σ) zk_kr_none)
theorem zk_keeps {S : zS} {I J R R' : zI} {T T' : Int × Nat} {S' : zS} {j : Nat} {vs : List zV} {v q : Int} (h : zG d j vs (S, I, R, T) = some (v, (S', J, R', T'))) (hk : (S q).1 = 18) (hq : q < T.1) : J q = I q := ((zk_kr_G d j vs (S, I, R, T)) v _ h).2 q hk hq |>.2
end ZKs
