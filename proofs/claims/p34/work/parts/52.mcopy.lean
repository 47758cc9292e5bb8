/-! the reference: pages are copied; what is comes behind those that are done; room for signs -/
section ZMc
variable {d : Nat} {S : zS} {I J R : zI} {T : Int × Nat} {a b n v l f c k x y z r i p q o w np nq len : Int} {P Q g : Int → Int}
theorem zi_cpy_at2 {j z s : Int} : zi_cpy I p q s w n z j = if z = q ∧ w ≤ j ∧ j < w + n then I p (s + (j - w)) else I z j := rfl
/-- n signs come into line l at i -/
def zt_insn (P : Int → Int) (l i n len : Int) (g : Int → Int) : Int → Int := fun j => if j = 1 + l then len + n else if j = 519 then i + n else if 13 + 40 * l + i ≤ j ∧ j < 13 + 40 * l + i + n then g (j - (13 + 40 * l + i)) else if 13 + 40 * l + i + n ≤ j ∧ j < 13 + 40 * l + len + n then P (j - n) else P j
theorem zt_insn_at {j : Int} : zt_insn P l i n len g j = if j = 1 + l then len + n else if j = 519 then i + n else if 13 + 40 * l + i ≤ j ∧ j < 13 + 40 * l + i + n then g (j - (13 + 40 * l + i)) else if 13 + 40 * l + i + n ≤ j ∧ j < 13 + 40 * l + len + n then P (j - n) else P j := rfl
def zt_spr (P : Int → Int) (l i n len : Int) : Int → Int := fun j => if j = 1 + l then len + n else if 13 + 40 * l + i + n ≤ j ∧ j < 13 + 40 * l + len + n then P (j - n) else P j
theorem zt_spr_at {j : Int} : zt_spr P l i n len j = if j = 1 + l then len + n else if 13 + 40 * l + i + n ≤ j ∧ j < 13 + 40 * l + len + n then P (j - n) else P j := rfl
end ZMc
