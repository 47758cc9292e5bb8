/-! behind an edit: all is laid, the caret settles, on both sides -/
section ZSt
variable {d : Nat} {S : zS} {I J K R : zI} {T : Int × Nat} {X M n v l f c k x y z r i p w t m e : Int} {P Q rz : Int → Int}
/-- components, when rows of the reference are others -/
theorem zc_tap_A {A A' : zI} (h : zc_tap I X A) (h0 : A' 0 12 = A 0 12) (h5 : A' 5 = A 5) : zc_tap I X A' := by
  unfold zc_tap at *
  rw [h0, h5]; exact h
theorem zc_img_A {A A' : zI} (h : zc_img I X A) (h12 : A' 12 = A 12) (h13 : A' 13 = A 13) : zc_img I X A' := by
  unfold zc_img zc_im1 at *
  rw [h12, h13]; exact h
theorem zc_shs_A {A A' : zI} (h : zc_shs I X A) (h14 : A' 14 = A 14) (h15 : A' 15 = A 15) (h16 : A' 16 = A 16) : zc_shs I X A' := by
  unfold zc_shs zc_sh1 at *
  rw [h14, h15, h16]; exact h
theorem zc_his_A {A A' : zI} (h : zc_his I R X A) (h4 : A' 0 4 = A 0 4) (h5 : A' 0 5 = A 0 5) (h3 : A' 3 = A 3) (h4' : A' 4 = A 4) : zc_his I R X A' := by
  unfold zc_his at *
  rw [h4, h5, h3, h4']; exact h
theorem zc_set_A {A A' : zI} (h : zc_set I X A) (h6 : A' 0 6 = A 0 6) (h7 : A' 0 7 = A 0 7) (h8 : A' 0 8 = A 0 8) (h9 : A' 0 9 = A 0 9) : zc_set I X A' := by
  unfold zc_set zr_mo at *
  rw [h6, h7, h8, h9]; exact h
theorem zc_num_A {A A' : zI} (h : zc_num I X A) (h6 : A' 0 10 = A 0 10) (h7 : A' 0 13 = A 0 13) : zc_num I X A' := by
  unfold zc_num at *
  rw [h6, h7]; exact h
theorem zc_lay_A {A A' : zI} (h : zc_lay I X A) (h6 : A' 0 6 = A 0 6) (h7 : A' 0 7 = A 0 7) (h8 : A' 0 8 = A 0 8) (h9 : A' 0 9 = A 0 9) (h1 : A' 1 = A 1) : zc_lay I X A' := by
  unfold zc_lay at *
  rw [h6, h7, h8, h9, h1]; exact h
end ZSt
