/-! rows of the script's kind stay as they are, whatever runs -/
def zk_kp (σ σ' : zM) : Prop := σ.2.2.2.1 ≤ σ'.2.2.2.1 ∧ ∀ q, (σ.1 q).1 = 18 → q < σ.2.2.2.1 → σ'.1 q = σ.1 q ∧ σ'.2.1 q = σ.2.1 q
def zk_kr (σ : zM) (r : zR) : Prop := ∀ v σ', r = some (v, σ') → zk_kp σ σ'
section ZKr
variable {σ σ1 : zM} {r A B : zR} {p k v : Int}
theorem zk_kp_refl : zk_kp σ σ := ⟨Int.le_refl _, fun _ _ _ => ⟨rfl, rfl⟩⟩
theorem zk_kp_tr {σ2 : zM} (h : zk_kp σ σ1) (g : zk_kp σ1 σ2) : zk_kp σ σ2 := ⟨Int.le_trans h.1 g.1, fun q h1 h2 => by
  obtain ⟨a1, a2⟩ := h.2 q h1 h2
  obtain ⟨b1, b2⟩ := g.2 q (by rw [a1]; exact h1) (Int.lt_of_lt_of_le h2 h.1)
  exact ⟨b1.trans a1, b2.trans a2⟩⟩
theorem zk_kr_none : zk_kr σ none := fun v σ' h => by cases h
theorem zk_kr_some : zk_kr σ (some (v, σ)) := fun v σ' h => by
  cases h; exact zk_kp_refl
theorem zk_kr_tr (h : zk_kp σ σ1) (g : zk_kr σ1 r) : zk_kr σ r := fun v σ' e => zk_kp_tr h (g v σ' e)
theorem zk_kp_wr (h : (σ.1 p).1 ≠ 18) : zk_kp σ (zi_wr σ p k v) := ⟨Int.le_refl _, fun q h1 _ => ⟨rfl, zu_off (fun e => h (by rw [← e]; exact h1))⟩⟩
theorem zk_kp_wq : zk_kp σ (zi_wq σ p k v) := ⟨Int.le_refl _, fun q _ _ => ⟨rfl, rfl⟩⟩
theorem zk_kp_new {kd sl : Nat} {n : Int} : zk_kp σ (zi_new σ kd n sl) := ⟨by show σ.2.2.2.1 ≤ σ.2.2.2.1 + 1; omega, fun q _ h2 => by
  have ne : ¬ q = σ.2.2.2.1 := by omega
  refine ⟨if_neg ne, ?_⟩
  funext j
  exact if_neg ne⟩
theorem zk_kr_bind {f : Int × zM → zR} (hr : zk_kr σ r) (hf : ∀ q, zk_kr q.2 (f q)) : zk_kr σ (r.bind f) := fun v σ' h => by
  cases r with
  | none => cases h
  | some q => exact zk_kp_tr (hr q.1 q.2 rfl) (hf q v σ' h)
theorem zk_kr_if {c : Jvm.ClassFile.Cond} {x y : Int} (hA : zk_kr σ A) (hB : zk_kr σ B) : zk_kr σ (zi_if c x y A B) := by
  unfold zi_if
  cases c <;> dsimp only <;> split <;> assumption
theorem zk_kr_sw {f : Nat → zR} {x : Int} {d : Nat} (hf : ∀ pc, zk_kr σ (f pc)) : ∀ sw, zk_kr σ (zi_sw sw d x f)
  | [] => hf d
  | c :: r => by
    unfold zi_sw
    split
    · exact hf _
    · exact zk_kr_sw hf r
theorem zk_kr_cond {b : Bool} (hA : zk_kr σ A) (hB : zk_kr σ B) : zk_kr σ (bif b then A else B) := by
  cases b
  · exact hB
  · exact hA
theorem zk_ft18 {k : Nat} : zi_ft 18 k = 0 := rfl
theorem zk_kp_ft {a k' : Nat} (h : (σ.1 p).1 = a) (hf : ¬ zi_ft a k' = 0) : zk_kp σ (zi_wr σ p k v) := zk_kp_wr (fun e => hf (by rw [← h, e]; rfl))
theorem zk_kr_ex {t : zT} {G : Nat → List zV → zM → zR} {nx : Nat → zL → List zV → zM → zR} {pc : Nat} {ls : zL} {st : List zV} (hG : ∀ j vs σ, zk_kr σ (G j vs σ)) (hnx : ∀ pc ls st σ, zk_kr σ (nx pc ls st σ)) : zk_kr σ (zi_ex t G nx pc ls st σ) := by
  unfold zi_ex
  split
  · exact zk_kr_none
  · rename_i ins a b sw hfind
    cases ins <;> dsimp only
    all_goals (repeat' (first | exact zk_kr_none | exact hnx _ _ _ _ | exact zk_kr_some | exact zk_kr_tr zk_kp_new (hnx _ _ _ _) | exact zk_kr_tr zk_kp_wq (hnx _ _ _ _) | refine zk_kr_cond ?_ ?_ | refine zk_kr_if ?_ ?_ | (refine zk_kr_sw (fun _ => ?_) _) | (refine zk_kr_bind (hG _ _ _) (fun _ => ?_)) | split))
    all_goals first
      | exact zk_kr_tr (zk_kp_wr (by omega)) (hnx _ _ _ _)
      | exact zk_kr_tr (zk_kp_ft (k' := b.toNat) (by first | assumption | exact (by assumption : _ ∧ _).1) (by omega)) (hnx _ _ _ _)
end ZKr
