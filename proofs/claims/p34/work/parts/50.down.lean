/-! the caret goes: down -/
theorem zw64_id {x : Int} (h1 : -9223372036854775808 ≤ x) (h2 : x < 9223372036854775808) : zi_w64 x = x := by
  unfold zi_w64
  omega
section ZMz
variable {d : Nat} {S : zS} {I J K R : zI} {T : Int × Nat} {X M n v l f c k x y z r i p w t m e : Int} {P Q rz : Int → Int}
theorem zt_total (hk : zl_rows P w t m e rz) (hw : zw_page P) : 1 ≤ zk_sm (zt_vis P rz) (P 0) ∧ zk_sm (zt_vis P rz) (P 0) ≤ 492 := by
  have h0 := hw.1
  have hs := zt_sm_ir (l := P 0) hk hw.2.1 ⟨by omega, Int.le_refl _⟩
  have hm := zk_sm_mono (g := zt_vis P rz) (n := 1) (m := P 0) (by omega) (by omega) (fun k k1 k2 => (zt_vis_ir hk ⟨k1, k2⟩ (hw.2.1 k k1 k2).2).1)
  have h1 := zk_smS (g := zt_vis P rz) (n := 0) (by omega)
  rw [zk_sm0 (show (0 : Int) ≤ 0 by omega)] at h1
  have nh : ¬ zt_hid P 0 := by
    rintro ⟨k, ⟨k1, k2⟩, k3, k4, k5⟩
    have := (hw.2.2.2.1 k k1 k2).1
    omega
  rw [zt_vis_f nh] at h1
  have hr := zl_rows_ir (l := 0) hk (by omega) (hw.2.1 0 (by omega) (by omega)).2
  rw [show (0 : Int) + 1 = 1 by omega] at h1
  omega
end ZMz
