/-! the reference, asked behind some laying of lines -/
section ZMk
variable {d : Nat} {S : zS} {I J K R : zI} {T : Int × Nat} {M n v l f c k x y z r i p : Int} {rz : Int → Int}
theorem zo_P (ho : zo_ly I K M) : K (M + 1) = I (M + 1) := ho.1 (M + 1) (by omega) (by omega)
theorem zzm_rows (ho : zo_ly I K M) (hk : zl_rows (I (M + 1)) (I M 6) (I M 7) (I M 8) (I M 9) rz) : zl_rows (K (M + 1)) (K M 6) (K M 7) (K M 8) (K M 9) rz := zl_rows_J ho hk
end ZMk
theorem zv_to {S : zS} {J R : zI} {T : Int × Nat} {r : zR} {v w : Int} (h : r = some (v, (S, J, R, T))) (e : v = w) : r = some (w, (S, J, R, T)) := by rw [h, e]
