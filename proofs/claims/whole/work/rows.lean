section
-- ===== PART A: goes FIRST, ahead of the names: the tables' words, and 'selects' of the private methods out of them =====
/-- a private method of a class that the tables say can be made, by its rows of tables_1 -/
def lw_okq (q : MethodName × Nat) : Prop := (q.1.cls ≠ "java/lang/invoke/MethodHandle" ∧ q.1.cls ≠ "java/lang/invoke/VarHandle") ∧ Cond.instantiable q.1.cls q.2 ∈ tables_1 ∧ Cond.privateMethod q.1 ∈ tables_1 ∧ Cond.instanceMethod q.1 ∈ tables_1
theorem lw_p0 : lw_okq (⟨"FoldedRows", "layAll", "()V"⟩, 10) := ⟨⟨by decide +kernel, by decide +kernel⟩, List.mem_of_getElem? (i := 17) (by decide +kernel), List.mem_of_getElem? (i := 270) (by decide +kernel), List.mem_of_getElem? (i := 271) (by decide +kernel)⟩
theorem lw_p1 : lw_okq (⟨"FoldedRows$LaidLine", "leadingCells", "(LFoldedRows$Lines;ILFoldedRows$Settings;)I"⟩, 11) := ⟨⟨by decide +kernel, by decide +kernel⟩, List.mem_of_getElem? (i := 172) (by decide +kernel), List.mem_of_getElem? (i := 293) (by decide +kernel), List.mem_of_getElem? (i := 294) (by decide +kernel)⟩
theorem lw_p2 : lw_okq (⟨"FoldedRows$LaidLine", "findBreaks", "(LFoldedRows$Lines;I)V"⟩, 11) := ⟨⟨by decide +kernel, by decide +kernel⟩, List.mem_of_getElem? (i := 172) (by decide +kernel), List.mem_of_getElem? (i := 311) (by decide +kernel), List.mem_of_getElem? (i := 312) (by decide +kernel)⟩
theorem lw_p3 : lw_okq (⟨"FoldedRows$LaidLine", "fillRow", "(LFoldedRows$Lines;IILFoldedRows$Settings;)I"⟩, 11) := ⟨⟨by decide +kernel, by decide +kernel⟩, List.mem_of_getElem? (i := 172) (by decide +kernel), List.mem_of_getElem? (i := 326) (by decide +kernel), List.mem_of_getElem? (i := 327) (by decide +kernel)⟩
theorem lw_p4 : lw_okq (⟨"FoldedRows$LaidLine", "rowEnd", "(II)I"⟩, 11) := ⟨⟨by decide +kernel, by decide +kernel⟩, List.mem_of_getElem? (i := 172) (by decide +kernel), List.mem_of_getElem? (i := 353) (by decide +kernel), List.mem_of_getElem? (i := 354) (by decide +kernel)⟩
theorem lw_p5 : lw_okq (⟨"FoldedRows$LaidLine", "findStops", "(LFoldedRows$Lines;I)V"⟩, 11) := ⟨⟨by decide +kernel, by decide +kernel⟩, List.mem_of_getElem? (i := 172) (by decide +kernel), List.mem_of_getElem? (i := 369) (by decide +kernel), List.mem_of_getElem? (i := 370) (by decide +kernel)⟩
theorem lw_p6 : lw_okq (⟨"FoldedRows", "settleCaret", "()V"⟩, 10) := ⟨⟨by decide +kernel, by decide +kernel⟩, List.mem_of_getElem? (i := 17) (by decide +kernel), List.mem_of_getElem? (i := 373) (by decide +kernel), List.mem_of_getElem? (i := 374) (by decide +kernel)⟩
theorem lw_p7 : lw_okq (⟨"FoldedRows", "moveCaret", "(II)V"⟩, 10) := ⟨⟨by decide +kernel, by decide +kernel⟩, List.mem_of_getElem? (i := 17) (by decide +kernel), List.mem_of_getElem? (i := 386) (by decide +kernel), List.mem_of_getElem? (i := 387) (by decide +kernel)⟩
theorem lw_p8 : lw_okq (⟨"FoldedRows", "caretColumn", "()I"⟩, 10) := ⟨⟨by decide +kernel, by decide +kernel⟩, List.mem_of_getElem? (i := 17) (by decide +kernel), List.mem_of_getElem? (i := 390) (by decide +kernel), List.mem_of_getElem? (i := 391) (by decide +kernel)⟩
theorem lw_p9 : lw_okq (⟨"FoldedRows$Tape", "readByte", "(ILFoldedRows$Frame;)I"⟩, 6) := ⟨⟨by decide +kernel, by decide +kernel⟩, List.mem_of_getElem? (i := 25) (by decide +kernel), List.mem_of_getElem? (i := 461) (by decide +kernel), List.mem_of_getElem? (i := 462) (by decide +kernel)⟩
theorem lw_p10 : lw_okq (⟨"FoldedRows$Tape", "endLine", "(LFoldedRows$Lines;)I"⟩, 6) := ⟨⟨by decide +kernel, by decide +kernel⟩, List.mem_of_getElem? (i := 25) (by decide +kernel), List.mem_of_getElem? (i := 465) (by decide +kernel), List.mem_of_getElem? (i := 466) (by decide +kernel)⟩
theorem lw_p11 : lw_okq (⟨"FoldedRows$Tape", "beginFold", "(I)I"⟩, 6) := ⟨⟨by decide +kernel, by decide +kernel⟩, List.mem_of_getElem? (i := 25) (by decide +kernel), List.mem_of_getElem? (i := 473) (by decide +kernel), List.mem_of_getElem? (i := 474) (by decide +kernel)⟩
theorem lw_p12 : lw_okq (⟨"FoldedRows$Tape", "endFold", "(LFoldedRows$Folds;I)I"⟩, 6) := ⟨⟨by decide +kernel, by decide +kernel⟩, List.mem_of_getElem? (i := 25) (by decide +kernel), List.mem_of_getElem? (i := 477) (by decide +kernel), List.mem_of_getElem? (i := 478) (by decide +kernel)⟩
theorem lw_p13 : lw_okq (⟨"FoldedRows$Folds", "write", "(IIII)V"⟩, 4) := ⟨⟨by decide +kernel, by decide +kernel⟩, List.mem_of_getElem? (i := 112) (by decide +kernel), List.mem_of_getElem? (i := 504) (by decide +kernel), List.mem_of_getElem? (i := 505) (by decide +kernel)⟩
theorem lw_p14 : lw_okq (⟨"FoldedRows", "forgetImage", "(I)V"⟩, 10) := ⟨⟨by decide +kernel, by decide +kernel⟩, List.mem_of_getElem? (i := 17) (by decide +kernel), List.mem_of_getElem? (i := 522) (by decide +kernel), List.mem_of_getElem? (i := 523) (by decide +kernel)⟩
theorem lw_p15 : lw_okq (⟨"FoldedRows", "imageOf", "(I)LFoldedRows$Image;"⟩, 10) := ⟨⟨by decide +kernel, by decide +kernel⟩, List.mem_of_getElem? (i := 17) (by decide +kernel), List.mem_of_getElem? (i := 526) (by decide +kernel), List.mem_of_getElem? (i := 527) (by decide +kernel)⟩
def lw_privs_1 : List (MethodName × Nat) := [(⟨"FoldedRows", "layAll", "()V"⟩, 10), (⟨"FoldedRows$LaidLine", "leadingCells", "(LFoldedRows$Lines;ILFoldedRows$Settings;)I"⟩, 11), (⟨"FoldedRows$LaidLine", "findBreaks", "(LFoldedRows$Lines;I)V"⟩, 11), (⟨"FoldedRows$LaidLine", "fillRow", "(LFoldedRows$Lines;IILFoldedRows$Settings;)I"⟩, 11), (⟨"FoldedRows$LaidLine", "rowEnd", "(II)I"⟩, 11), (⟨"FoldedRows$LaidLine", "findStops", "(LFoldedRows$Lines;I)V"⟩, 11), (⟨"FoldedRows", "settleCaret", "()V"⟩, 10), (⟨"FoldedRows", "moveCaret", "(II)V"⟩, 10), (⟨"FoldedRows", "caretColumn", "()I"⟩, 10), (⟨"FoldedRows$Tape", "readByte", "(ILFoldedRows$Frame;)I"⟩, 6), (⟨"FoldedRows$Tape", "endLine", "(LFoldedRows$Lines;)I"⟩, 6), (⟨"FoldedRows$Tape", "beginFold", "(I)I"⟩, 6), (⟨"FoldedRows$Tape", "endFold", "(LFoldedRows$Folds;I)I"⟩, 6), (⟨"FoldedRows$Folds", "write", "(IIII)V"⟩, 4), (⟨"FoldedRows", "forgetImage", "(I)V"⟩, 10), (⟨"FoldedRows", "imageOf", "(I)LFoldedRows$Image;"⟩, 10)]
theorem lw_r1 : ∀ q ∈ lw_privs_1, lw_okq q := List.forall_mem_cons.mpr ⟨lw_p0, List.forall_mem_cons.mpr ⟨lw_p1, List.forall_mem_cons.mpr ⟨lw_p2, List.forall_mem_cons.mpr ⟨lw_p3, List.forall_mem_cons.mpr ⟨lw_p4, List.forall_mem_cons.mpr ⟨lw_p5, List.forall_mem_cons.mpr ⟨lw_p6, List.forall_mem_cons.mpr ⟨lw_p7, List.forall_mem_cons.mpr ⟨lw_p8, List.forall_mem_cons.mpr ⟨lw_p9, List.forall_mem_cons.mpr ⟨lw_p10, List.forall_mem_cons.mpr ⟨lw_p11, List.forall_mem_cons.mpr ⟨lw_p12, List.forall_mem_cons.mpr ⟨lw_p13, List.forall_mem_cons.mpr ⟨lw_p14, List.forall_mem_cons.mpr ⟨lw_p15, fun _ h => absurd h List.not_mem_nil⟩⟩⟩⟩⟩⟩⟩⟩⟩⟩⟩⟩⟩⟩⟩⟩
theorem lw_p16 : lw_okq (⟨"FoldedRows", "imageCount", "()I"⟩, 10) := ⟨⟨by decide +kernel, by decide +kernel⟩, List.mem_of_getElem? (i := 17) (by decide +kernel), List.mem_of_getElem? (i := 572) (by decide +kernel), List.mem_of_getElem? (i := 573) (by decide +kernel)⟩
theorem lw_p17 : lw_okq (⟨"FoldedRows", "caretRow", "()I"⟩, 10) := ⟨⟨by decide +kernel, by decide +kernel⟩, List.mem_of_getElem? (i := 17) (by decide +kernel), List.mem_of_getElem? (i := 671) (by decide +kernel), List.mem_of_getElem? (i := 672) (by decide +kernel)⟩
theorem lw_p18 : lw_okq (⟨"FoldedRows$History", "dropOldest", "()V"⟩, 3) := ⟨⟨by decide +kernel, by decide +kernel⟩, List.mem_of_getElem? (i := 79) (by decide +kernel), List.mem_of_getElem? (i := 726) (by decide +kernel), List.mem_of_getElem? (i := 727) (by decide +kernel)⟩
theorem lw_p19 : lw_okq (⟨"FoldedRows$Lines", "writeSign", "(III)V"⟩, 3) := ⟨⟨by decide +kernel, by decide +kernel⟩, List.mem_of_getElem? (i := 92) (by decide +kernel), List.mem_of_getElem? (i := 755) (by decide +kernel), List.mem_of_getElem? (i := 756) (by decide +kernel)⟩
theorem lw_p20 : lw_okq (⟨"FoldedRows", "layCaretLine", "()V"⟩, 10) := ⟨⟨by decide +kernel, by decide +kernel⟩, List.mem_of_getElem? (i := 17) (by decide +kernel), List.mem_of_getElem? (i := 759) (by decide +kernel), List.mem_of_getElem? (i := 760) (by decide +kernel)⟩
theorem lw_p21 : lw_okq (⟨"FoldedRows", "joinWithLineAhead", "()I"⟩, 10) := ⟨⟨by decide +kernel, by decide +kernel⟩, List.mem_of_getElem? (i := 17) (by decide +kernel), List.mem_of_getElem? (i := 768) (by decide +kernel), List.mem_of_getElem? (i := 769) (by decide +kernel)⟩
theorem lw_p22 : lw_okq (⟨"FoldedRows$Lines", "appendPart", "(III)V"⟩, 3) := ⟨⟨by decide +kernel, by decide +kernel⟩, List.mem_of_getElem? (i := 92) (by decide +kernel), List.mem_of_getElem? (i := 776) (by decide +kernel), List.mem_of_getElem? (i := 777) (by decide +kernel)⟩
theorem lw_p23 : lw_okq (⟨"FoldedRows$Lines", "copyLine", "(II)V"⟩, 3) := ⟨⟨by decide +kernel, by decide +kernel⟩, List.mem_of_getElem? (i := 92) (by decide +kernel), List.mem_of_getElem? (i := 781) (by decide +kernel), List.mem_of_getElem? (i := 782) (by decide +kernel)⟩
theorem lw_p24 : lw_okq (⟨"FoldedRows$History", "exchange", "(ILFoldedRows$Frame;)LFoldedRows$Frame;"⟩, 3) := ⟨⟨by decide +kernel, by decide +kernel⟩, List.mem_of_getElem? (i := 79) (by decide +kernel), List.mem_of_getElem? (i := 819) (by decide +kernel), List.mem_of_getElem? (i := 820) (by decide +kernel)⟩
theorem lw_p25 : lw_okq (⟨"FoldedRows", "sheetOf", "(I)LFoldedRows$Sheet;"⟩, 10) := ⟨⟨by decide +kernel, by decide +kernel⟩, List.mem_of_getElem? (i := 17) (by decide +kernel), List.mem_of_getElem? (i := 881) (by decide +kernel), List.mem_of_getElem? (i := 882) (by decide +kernel)⟩
theorem lw_p26 : lw_okq (⟨"FoldedRows$Sheet", "lowestBits", "(I)I"⟩, 4) := ⟨⟨by decide +kernel, by decide +kernel⟩, List.mem_of_getElem? (i := 249) (by decide +kernel), List.mem_of_getElem? (i := 901) (by decide +kernel), List.mem_of_getElem? (i := 902) (by decide +kernel)⟩
theorem lw_p27 : lw_okq (⟨"FoldedRowsModel", "faultOfByte", "(I)I"⟩, 29) := ⟨⟨by decide +kernel, by decide +kernel⟩, List.mem_of_getElem? (i := 920) (by decide +kernel), List.mem_of_getElem? (i := 1031) (by decide +kernel), List.mem_of_getElem? (i := 1032) (by decide +kernel)⟩
theorem lw_p28 : lw_okq (⟨"FoldedRowsModel", "faultOfSign", "(I)I"⟩, 29) := ⟨⟨by decide +kernel, by decide +kernel⟩, List.mem_of_getElem? (i := 920) (by decide +kernel), List.mem_of_getElem? (i := 1048) (by decide +kernel), List.mem_of_getElem? (i := 1049) (by decide +kernel)⟩
theorem lw_p29 : lw_okq (⟨"FoldedRowsModel", "faultOfEnd", "()I"⟩, 29) := ⟨⟨by decide +kernel, by decide +kernel⟩, List.mem_of_getElem? (i := 920) (by decide +kernel), List.mem_of_getElem? (i := 1052) (by decide +kernel), List.mem_of_getElem? (i := 1053) (by decide +kernel)⟩
theorem lw_p30 : lw_okq (⟨"FoldedRowsModel", "signs", "()I"⟩, 29) := ⟨⟨by decide +kernel, by decide +kernel⟩, List.mem_of_getElem? (i := 920) (by decide +kernel), List.mem_of_getElem? (i := 1076) (by decide +kernel), List.mem_of_getElem? (i := 1077) (by decide +kernel)⟩
theorem lw_p31 : lw_okq (⟨"FoldedRowsModel", "lengthOf", "(I)I"⟩, 29) := ⟨⟨by decide +kernel, by decide +kernel⟩, List.mem_of_getElem? (i := 920) (by decide +kernel), List.mem_of_getElem? (i := 1080) (by decide +kernel), List.mem_of_getElem? (i := 1081) (by decide +kernel)⟩
def lw_privs_2 : List (MethodName × Nat) := [(⟨"FoldedRows", "imageCount", "()I"⟩, 10), (⟨"FoldedRows", "caretRow", "()I"⟩, 10), (⟨"FoldedRows$History", "dropOldest", "()V"⟩, 3), (⟨"FoldedRows$Lines", "writeSign", "(III)V"⟩, 3), (⟨"FoldedRows", "layCaretLine", "()V"⟩, 10), (⟨"FoldedRows", "joinWithLineAhead", "()I"⟩, 10), (⟨"FoldedRows$Lines", "appendPart", "(III)V"⟩, 3), (⟨"FoldedRows$Lines", "copyLine", "(II)V"⟩, 3), (⟨"FoldedRows$History", "exchange", "(ILFoldedRows$Frame;)LFoldedRows$Frame;"⟩, 3), (⟨"FoldedRows", "sheetOf", "(I)LFoldedRows$Sheet;"⟩, 10), (⟨"FoldedRows$Sheet", "lowestBits", "(I)I"⟩, 4), (⟨"FoldedRowsModel", "faultOfByte", "(I)I"⟩, 29), (⟨"FoldedRowsModel", "faultOfSign", "(I)I"⟩, 29), (⟨"FoldedRowsModel", "faultOfEnd", "()I"⟩, 29), (⟨"FoldedRowsModel", "signs", "()I"⟩, 29), (⟨"FoldedRowsModel", "lengthOf", "(I)I"⟩, 29)]
theorem lw_r2 : ∀ q ∈ lw_privs_2, lw_okq q := List.forall_mem_cons.mpr ⟨lw_p16, List.forall_mem_cons.mpr ⟨lw_p17, List.forall_mem_cons.mpr ⟨lw_p18, List.forall_mem_cons.mpr ⟨lw_p19, List.forall_mem_cons.mpr ⟨lw_p20, List.forall_mem_cons.mpr ⟨lw_p21, List.forall_mem_cons.mpr ⟨lw_p22, List.forall_mem_cons.mpr ⟨lw_p23, List.forall_mem_cons.mpr ⟨lw_p24, List.forall_mem_cons.mpr ⟨lw_p25, List.forall_mem_cons.mpr ⟨lw_p26, List.forall_mem_cons.mpr ⟨lw_p27, List.forall_mem_cons.mpr ⟨lw_p28, List.forall_mem_cons.mpr ⟨lw_p29, List.forall_mem_cons.mpr ⟨lw_p30, List.forall_mem_cons.mpr ⟨lw_p31, fun _ h => absurd h List.not_mem_nil⟩⟩⟩⟩⟩⟩⟩⟩⟩⟩⟩⟩⟩⟩⟩⟩
theorem lw_p32 : lw_okq (⟨"FoldedRowsModel", "screenRows", "()I"⟩, 29) := ⟨⟨by decide +kernel, by decide +kernel⟩, List.mem_of_getElem? (i := 920) (by decide +kernel), List.mem_of_getElem? (i := 1084) (by decide +kernel), List.mem_of_getElem? (i := 1085) (by decide +kernel)⟩
theorem lw_p33 : lw_okq (⟨"FoldedRowsModel", "firstRow", "(I)I"⟩, 29) := ⟨⟨by decide +kernel, by decide +kernel⟩, List.mem_of_getElem? (i := 920) (by decide +kernel), List.mem_of_getElem? (i := 1088) (by decide +kernel), List.mem_of_getElem? (i := 1089) (by decide +kernel)⟩
theorem lw_p34 : lw_okq (⟨"FoldedRowsModel", "isHidden", "(I)Z"⟩, 29) := ⟨⟨by decide +kernel, by decide +kernel⟩, List.mem_of_getElem? (i := 920) (by decide +kernel), List.mem_of_getElem? (i := 1092) (by decide +kernel), List.mem_of_getElem? (i := 1093) (by decide +kernel)⟩
theorem lw_p35 : lw_okq (⟨"FoldedRowsModel", "isShut", "(I)Z"⟩, 29) := ⟨⟨by decide +kernel, by decide +kernel⟩, List.mem_of_getElem? (i := 920) (by decide +kernel), List.mem_of_getElem? (i := 1096) (by decide +kernel), List.mem_of_getElem? (i := 1097) (by decide +kernel)⟩
theorem lw_p36 : lw_okq (⟨"FoldedRowsModel", "firstOf", "(I)I"⟩, 29) := ⟨⟨by decide +kernel, by decide +kernel⟩, List.mem_of_getElem? (i := 920) (by decide +kernel), List.mem_of_getElem? (i := 1100) (by decide +kernel), List.mem_of_getElem? (i := 1101) (by decide +kernel)⟩
theorem lw_p37 : lw_okq (⟨"FoldedRowsModel", "lastOf", "(I)I"⟩, 29) := ⟨⟨by decide +kernel, by decide +kernel⟩, List.mem_of_getElem? (i := 920) (by decide +kernel), List.mem_of_getElem? (i := 1104) (by decide +kernel), List.mem_of_getElem? (i := 1105) (by decide +kernel)⟩
theorem lw_p38 : lw_okq (⟨"FoldedRowsModel", "rowsOf", "(I)I"⟩, 29) := ⟨⟨by decide +kernel, by decide +kernel⟩, List.mem_of_getElem? (i := 920) (by decide +kernel), List.mem_of_getElem? (i := 1108) (by decide +kernel), List.mem_of_getElem? (i := 1109) (by decide +kernel)⟩
theorem lw_p39 : lw_okq (⟨"FoldedRowsModel", "lays", "(I)V"⟩, 29) := ⟨⟨by decide +kernel, by decide +kernel⟩, List.mem_of_getElem? (i := 920) (by decide +kernel), List.mem_of_getElem? (i := 1112) (by decide +kernel), List.mem_of_getElem? (i := 1113) (by decide +kernel)⟩
theorem lw_p40 : lw_okq (⟨"FoldedRowsModel", "indentOf", "(I)I"⟩, 29) := ⟨⟨by decide +kernel, by decide +kernel⟩, List.mem_of_getElem? (i := 920) (by decide +kernel), List.mem_of_getElem? (i := 1116) (by decide +kernel), List.mem_of_getElem? (i := 1117) (by decide +kernel)⟩
theorem lw_p41 : lw_okq (⟨"FoldedRowsModel", "signOf", "(II)I"⟩, 29) := ⟨⟨by decide +kernel, by decide +kernel⟩, List.mem_of_getElem? (i := 920) (by decide +kernel), List.mem_of_getElem? (i := 1120) (by decide +kernel), List.mem_of_getElem? (i := 1121) (by decide +kernel)⟩
theorem lw_p42 : lw_okq (⟨"FoldedRowsModel", "cellsOf", "(III)I"⟩, 29) := ⟨⟨by decide +kernel, by decide +kernel⟩, List.mem_of_getElem? (i := 920) (by decide +kernel), List.mem_of_getElem? (i := 1124) (by decide +kernel), List.mem_of_getElem? (i := 1125) (by decide +kernel)⟩
theorem lw_p43 : lw_okq (⟨"FoldedRowsModel", "begins", "(I)V"⟩, 29) := ⟨⟨by decide +kernel, by decide +kernel⟩, List.mem_of_getElem? (i := 920) (by decide +kernel), List.mem_of_getElem? (i := 1128) (by decide +kernel), List.mem_of_getElem? (i := 1129) (by decide +kernel)⟩
theorem lw_p44 : lw_okq (⟨"FoldedRowsModel", "laysSign", "(IIIZ)V"⟩, 29) := ⟨⟨by decide +kernel, by decide +kernel⟩, List.mem_of_getElem? (i := 920) (by decide +kernel), List.mem_of_getElem? (i := 1132) (by decide +kernel), List.mem_of_getElem? (i := 1133) (by decide +kernel)⟩
theorem lw_p45 : lw_okq (⟨"FoldedRowsModel", "endOfRow", "(III)I"⟩, 29) := ⟨⟨by decide +kernel, by decide +kernel⟩, List.mem_of_getElem? (i := 920) (by decide +kernel), List.mem_of_getElem? (i := 1136) (by decide +kernel), List.mem_of_getElem? (i := 1137) (by decide +kernel)⟩
theorem lw_p46 : lw_okq (⟨"FoldedRowsModel", "isBreak", "(II)Z"⟩, 29) := ⟨⟨by decide +kernel, by decide +kernel⟩, List.mem_of_getElem? (i := 920) (by decide +kernel), List.mem_of_getElem? (i := 1140) (by decide +kernel), List.mem_of_getElem? (i := 1141) (by decide +kernel)⟩
theorem lw_p47 : lw_okq (⟨"FoldedRowsModel", "hiddenLines", "()I"⟩, 29) := ⟨⟨by decide +kernel, by decide +kernel⟩, List.mem_of_getElem? (i := 920) (by decide +kernel), List.mem_of_getElem? (i := 1144) (by decide +kernel), List.mem_of_getElem? (i := 1145) (by decide +kernel)⟩
def lw_privs_3 : List (MethodName × Nat) := [(⟨"FoldedRowsModel", "screenRows", "()I"⟩, 29), (⟨"FoldedRowsModel", "firstRow", "(I)I"⟩, 29), (⟨"FoldedRowsModel", "isHidden", "(I)Z"⟩, 29), (⟨"FoldedRowsModel", "isShut", "(I)Z"⟩, 29), (⟨"FoldedRowsModel", "firstOf", "(I)I"⟩, 29), (⟨"FoldedRowsModel", "lastOf", "(I)I"⟩, 29), (⟨"FoldedRowsModel", "rowsOf", "(I)I"⟩, 29), (⟨"FoldedRowsModel", "lays", "(I)V"⟩, 29), (⟨"FoldedRowsModel", "indentOf", "(I)I"⟩, 29), (⟨"FoldedRowsModel", "signOf", "(II)I"⟩, 29), (⟨"FoldedRowsModel", "cellsOf", "(III)I"⟩, 29), (⟨"FoldedRowsModel", "begins", "(I)V"⟩, 29), (⟨"FoldedRowsModel", "laysSign", "(IIIZ)V"⟩, 29), (⟨"FoldedRowsModel", "endOfRow", "(III)I"⟩, 29), (⟨"FoldedRowsModel", "isBreak", "(II)Z"⟩, 29), (⟨"FoldedRowsModel", "hiddenLines", "()I"⟩, 29)]
theorem lw_r3 : ∀ q ∈ lw_privs_3, lw_okq q := List.forall_mem_cons.mpr ⟨lw_p32, List.forall_mem_cons.mpr ⟨lw_p33, List.forall_mem_cons.mpr ⟨lw_p34, List.forall_mem_cons.mpr ⟨lw_p35, List.forall_mem_cons.mpr ⟨lw_p36, List.forall_mem_cons.mpr ⟨lw_p37, List.forall_mem_cons.mpr ⟨lw_p38, List.forall_mem_cons.mpr ⟨lw_p39, List.forall_mem_cons.mpr ⟨lw_p40, List.forall_mem_cons.mpr ⟨lw_p41, List.forall_mem_cons.mpr ⟨lw_p42, List.forall_mem_cons.mpr ⟨lw_p43, List.forall_mem_cons.mpr ⟨lw_p44, List.forall_mem_cons.mpr ⟨lw_p45, List.forall_mem_cons.mpr ⟨lw_p46, List.forall_mem_cons.mpr ⟨lw_p47, fun _ h => absurd h List.not_mem_nil⟩⟩⟩⟩⟩⟩⟩⟩⟩⟩⟩⟩⟩⟩⟩⟩
theorem lw_p48 : lw_okq (⟨"FoldedRowsModel", "shutFolds", "()I"⟩, 29) := ⟨⟨by decide +kernel, by decide +kernel⟩, List.mem_of_getElem? (i := 920) (by decide +kernel), List.mem_of_getElem? (i := 1148) (by decide +kernel), List.mem_of_getElem? (i := 1149) (by decide +kernel)⟩
theorem lw_p49 : lw_okq (⟨"FoldedRowsModel", "isLine", "(I)Z"⟩, 29) := ⟨⟨by decide +kernel, by decide +kernel⟩, List.mem_of_getElem? (i := 920) (by decide +kernel), List.mem_of_getElem? (i := 1156) (by decide +kernel), List.mem_of_getElem? (i := 1157) (by decide +kernel)⟩
theorem lw_p50 : lw_okq (⟨"FoldedRowsModel", "counted", "(II)I"⟩, 29) := ⟨⟨by decide +kernel, by decide +kernel⟩, List.mem_of_getElem? (i := 920) (by decide +kernel), List.mem_of_getElem? (i := 1165) (by decide +kernel), List.mem_of_getElem? (i := 1166) (by decide +kernel)⟩
theorem lw_p51 : lw_okq (⟨"FoldedRowsModel", "isStop", "(II)Z"⟩, 29) := ⟨⟨by decide +kernel, by decide +kernel⟩, List.mem_of_getElem? (i := 920) (by decide +kernel), List.mem_of_getElem? (i := 1169) (by decide +kernel), List.mem_of_getElem? (i := 1170) (by decide +kernel)⟩
theorem lw_p52 : lw_okq (⟨"FoldedRowsModel", "isRow", "(I)Z"⟩, 29) := ⟨⟨by decide +kernel, by decide +kernel⟩, List.mem_of_getElem? (i := 920) (by decide +kernel), List.mem_of_getElem? (i := 1177) (by decide +kernel), List.mem_of_getElem? (i := 1178) (by decide +kernel)⟩
theorem lw_p53 : lw_okq (⟨"FoldedRowsModel", "lineOfRow", "(I)I"⟩, 29) := ⟨⟨by decide +kernel, by decide +kernel⟩, List.mem_of_getElem? (i := 920) (by decide +kernel), List.mem_of_getElem? (i := 1182) (by decide +kernel), List.mem_of_getElem? (i := 1183) (by decide +kernel)⟩
theorem lw_p54 : lw_okq (⟨"FoldedRowsModel", "endColumn", "(I)I"⟩, 29) := ⟨⟨by decide +kernel, by decide +kernel⟩, List.mem_of_getElem? (i := 920) (by decide +kernel), List.mem_of_getElem? (i := 1186) (by decide +kernel), List.mem_of_getElem? (i := 1187) (by decide +kernel)⟩
theorem lw_p55 : lw_okq (⟨"FoldedRowsModel", "placeOf", "(III)I"⟩, 29) := ⟨⟨by decide +kernel, by decide +kernel⟩, List.mem_of_getElem? (i := 920) (by decide +kernel), List.mem_of_getElem? (i := 1203) (by decide +kernel), List.mem_of_getElem? (i := 1204) (by decide +kernel)⟩
theorem lw_p56 : lw_okq (⟨"FoldedRowsModel", "caretRow", "()I"⟩, 29) := ⟨⟨by decide +kernel, by decide +kernel⟩, List.mem_of_getElem? (i := 920) (by decide +kernel), List.mem_of_getElem? (i := 1215) (by decide +kernel), List.mem_of_getElem? (i := 1216) (by decide +kernel)⟩
theorem lw_p57 : lw_okq (⟨"FoldedRowsModel", "caretColumn", "()I"⟩, 29) := ⟨⟨by decide +kernel, by decide +kernel⟩, List.mem_of_getElem? (i := 920) (by decide +kernel), List.mem_of_getElem? (i := 1219) (by decide +kernel), List.mem_of_getElem? (i := 1220) (by decide +kernel)⟩
theorem lw_p58 : lw_okq (⟨"FoldedRowsModel", "settles", "()V"⟩, 29) := ⟨⟨by decide +kernel, by decide +kernel⟩, List.mem_of_getElem? (i := 920) (by decide +kernel), List.mem_of_getElem? (i := 1227) (by decide +kernel), List.mem_of_getElem? (i := 1228) (by decide +kernel)⟩
theorem lw_p59 : lw_okq (⟨"FoldedRowsModel", "stopAhead", "(II)I"⟩, 29) := ⟨⟨by decide +kernel, by decide +kernel⟩, List.mem_of_getElem? (i := 920) (by decide +kernel), List.mem_of_getElem? (i := 1235) (by decide +kernel), List.mem_of_getElem? (i := 1236) (by decide +kernel)⟩
theorem lw_p60 : lw_okq (⟨"FoldedRowsModel", "stopBehind", "(II)I"⟩, 29) := ⟨⟨by decide +kernel, by decide +kernel⟩, List.mem_of_getElem? (i := 920) (by decide +kernel), List.mem_of_getElem? (i := 1239) (by decide +kernel), List.mem_of_getElem? (i := 1240) (by decide +kernel)⟩
theorem lw_p61 : lw_okq (⟨"FoldedRowsModel", "edits", "()V"⟩, 29) := ⟨⟨by decide +kernel, by decide +kernel⟩, List.mem_of_getElem? (i := 920) (by decide +kernel), List.mem_of_getElem? (i := 1258) (by decide +kernel), List.mem_of_getElem? (i := 1259) (by decide +kernel)⟩
theorem lw_p62 : lw_okq (⟨"FoldedRowsModel", "isDone", "()V"⟩, 29) := ⟨⟨by decide +kernel, by decide +kernel⟩, List.mem_of_getElem? (i := 920) (by decide +kernel), List.mem_of_getElem? (i := 1262) (by decide +kernel), List.mem_of_getElem? (i := 1263) (by decide +kernel)⟩
theorem lw_p63 : lw_okq (⟨"FoldedRowsModel", "spreads", "(I)V"⟩, 29) := ⟨⟨by decide +kernel, by decide +kernel⟩, List.mem_of_getElem? (i := 920) (by decide +kernel), List.mem_of_getElem? (i := 1269) (by decide +kernel), List.mem_of_getElem? (i := 1270) (by decide +kernel)⟩
def lw_privs_4 : List (MethodName × Nat) := [(⟨"FoldedRowsModel", "shutFolds", "()I"⟩, 29), (⟨"FoldedRowsModel", "isLine", "(I)Z"⟩, 29), (⟨"FoldedRowsModel", "counted", "(II)I"⟩, 29), (⟨"FoldedRowsModel", "isStop", "(II)Z"⟩, 29), (⟨"FoldedRowsModel", "isRow", "(I)Z"⟩, 29), (⟨"FoldedRowsModel", "lineOfRow", "(I)I"⟩, 29), (⟨"FoldedRowsModel", "endColumn", "(I)I"⟩, 29), (⟨"FoldedRowsModel", "placeOf", "(III)I"⟩, 29), (⟨"FoldedRowsModel", "caretRow", "()I"⟩, 29), (⟨"FoldedRowsModel", "caretColumn", "()I"⟩, 29), (⟨"FoldedRowsModel", "settles", "()V"⟩, 29), (⟨"FoldedRowsModel", "stopAhead", "(II)I"⟩, 29), (⟨"FoldedRowsModel", "stopBehind", "(II)I"⟩, 29), (⟨"FoldedRowsModel", "edits", "()V"⟩, 29), (⟨"FoldedRowsModel", "isDone", "()V"⟩, 29), (⟨"FoldedRowsModel", "spreads", "(I)V"⟩, 29)]
theorem lw_r4 : ∀ q ∈ lw_privs_4, lw_okq q := List.forall_mem_cons.mpr ⟨lw_p48, List.forall_mem_cons.mpr ⟨lw_p49, List.forall_mem_cons.mpr ⟨lw_p50, List.forall_mem_cons.mpr ⟨lw_p51, List.forall_mem_cons.mpr ⟨lw_p52, List.forall_mem_cons.mpr ⟨lw_p53, List.forall_mem_cons.mpr ⟨lw_p54, List.forall_mem_cons.mpr ⟨lw_p55, List.forall_mem_cons.mpr ⟨lw_p56, List.forall_mem_cons.mpr ⟨lw_p57, List.forall_mem_cons.mpr ⟨lw_p58, List.forall_mem_cons.mpr ⟨lw_p59, List.forall_mem_cons.mpr ⟨lw_p60, List.forall_mem_cons.mpr ⟨lw_p61, List.forall_mem_cons.mpr ⟨lw_p62, List.forall_mem_cons.mpr ⟨lw_p63, fun _ h => absurd h List.not_mem_nil⟩⟩⟩⟩⟩⟩⟩⟩⟩⟩⟩⟩⟩⟩⟩⟩
theorem lw_p64 : lw_okq (⟨"FoldedRowsModel", "erases", "()I"⟩, 29) := ⟨⟨by decide +kernel, by decide +kernel⟩, List.mem_of_getElem? (i := 920) (by decide +kernel), List.mem_of_getElem? (i := 1277) (by decide +kernel), List.mem_of_getElem? (i := 1278) (by decide +kernel)⟩
theorem lw_p65 : lw_okq (⟨"FoldedRowsModel", "joins", "()I"⟩, 29) := ⟨⟨by decide +kernel, by decide +kernel⟩, List.mem_of_getElem? (i := 920) (by decide +kernel), List.mem_of_getElem? (i := 1281) (by decide +kernel), List.mem_of_getElem? (i := 1282) (by decide +kernel)⟩
theorem lw_p66 : lw_okq (⟨"FoldedRowsModel", "copiesLine", "(II)V"⟩, 29) := ⟨⟨by decide +kernel, by decide +kernel⟩, List.mem_of_getElem? (i := 920) (by decide +kernel), List.mem_of_getElem? (i := 1285) (by decide +kernel), List.mem_of_getElem? (i := 1286) (by decide +kernel)⟩
theorem lw_p67 : lw_okq (⟨"FoldedRowsModel", "joinsFolds", "(I)V"⟩, 29) := ⟨⟨by decide +kernel, by decide +kernel⟩, List.mem_of_getElem? (i := 920) (by decide +kernel), List.mem_of_getElem? (i := 1289) (by decide +kernel), List.mem_of_getElem? (i := 1290) (by decide +kernel)⟩
theorem lw_p68 : lw_okq (⟨"FoldedRowsModel", "isShutAt", "(I)Z"⟩, 29) := ⟨⟨by decide +kernel, by decide +kernel⟩, List.mem_of_getElem? (i := 920) (by decide +kernel), List.mem_of_getElem? (i := 1297) (by decide +kernel), List.mem_of_getElem? (i := 1298) (by decide +kernel)⟩
theorem lw_p69 : lw_okq (⟨"FoldedRowsModel", "isFold", "(I)Z"⟩, 29) := ⟨⟨by decide +kernel, by decide +kernel⟩, List.mem_of_getElem? (i := 920) (by decide +kernel), List.mem_of_getElem? (i := 1317) (by decide +kernel), List.mem_of_getElem? (i := 1318) (by decide +kernel)⟩
theorem lw_p70 : lw_okq (⟨"FoldedRowsModel", "setting", "(I)I"⟩, 29) := ⟨⟨by decide +kernel, by decide +kernel⟩, List.mem_of_getElem? (i := 920) (by decide +kernel), List.mem_of_getElem? (i := 1333) (by decide +kernel), List.mem_of_getElem? (i := 1334) (by decide +kernel)⟩
theorem lw_p71 : lw_okq (⟨"FoldedRowsModel", "sets", "(II)V"⟩, 29) := ⟨⟨by decide +kernel, by decide +kernel⟩, List.mem_of_getElem? (i := 920) (by decide +kernel), List.mem_of_getElem? (i := 1337) (by decide +kernel), List.mem_of_getElem? (i := 1338) (by decide +kernel)⟩
def lw_privs_5 : List (MethodName × Nat) := [(⟨"FoldedRowsModel", "erases", "()I"⟩, 29), (⟨"FoldedRowsModel", "joins", "()I"⟩, 29), (⟨"FoldedRowsModel", "copiesLine", "(II)V"⟩, 29), (⟨"FoldedRowsModel", "joinsFolds", "(I)V"⟩, 29), (⟨"FoldedRowsModel", "isShutAt", "(I)Z"⟩, 29), (⟨"FoldedRowsModel", "isFold", "(I)Z"⟩, 29), (⟨"FoldedRowsModel", "setting", "(I)I"⟩, 29), (⟨"FoldedRowsModel", "sets", "(II)V"⟩, 29)]
theorem lw_r5 : ∀ q ∈ lw_privs_5, lw_okq q := List.forall_mem_cons.mpr ⟨lw_p64, List.forall_mem_cons.mpr ⟨lw_p65, List.forall_mem_cons.mpr ⟨lw_p66, List.forall_mem_cons.mpr ⟨lw_p67, List.forall_mem_cons.mpr ⟨lw_p68, List.forall_mem_cons.mpr ⟨lw_p69, List.forall_mem_cons.mpr ⟨lw_p70, List.forall_mem_cons.mpr ⟨lw_p71, fun _ h => absurd h List.not_mem_nil⟩⟩⟩⟩⟩⟩⟩⟩
def lw_privs : List (MethodName × Nat) := lw_privs_1 ++ (lw_privs_2 ++ (lw_privs_3 ++ (lw_privs_4 ++ (lw_privs_5))))
def lw_tbl : List Cond := k2_sels lw_privs ++ tables_1
theorem lw_privs_ok : ∀ q ∈ lw_privs, lw_okq q := by
  show ∀ q ∈ lw_privs_1 ++ (lw_privs_2 ++ (lw_privs_3 ++ (lw_privs_4 ++ (lw_privs_5)))), lw_okq q
  exact List.forall_mem_append.mpr ⟨lw_r1, List.forall_mem_append.mpr ⟨lw_r2, List.forall_mem_append.mpr ⟨lw_r3, List.forall_mem_append.mpr ⟨lw_r4, lw_r5⟩⟩⟩⟩
end
section
/-! A small machine of whole numbers: what a method does to a memory of whole numbers, as a function. -/
abbrev zV : Type := Int ⊕ Int ⊕ Int
abbrev zM : Type := (Int → Nat × Int) × (Int → Int → Int) × (Int → Int → Int) × Int × Nat
abbrev zL : Type := List (Option zV)
abbrev zR : Type := Option (Int × zM)
abbrev zC : Type := Nat × Instr × Nat × Int × List (Int × Nat)
abbrev zT : Type := List zC × List (Nat × List Bool) × Nat × Nat
def zi_w (x : Int) : Int := (x + 2147483648) % 4294967296 - 2147483648
def zi_w64 (x : Int) : Int := (x + 9223372036854775808) % 18446744073709551616 - 9223372036854775808
def zi_rem (x y : Int) : Int := zi_w (x - zi_w (zi_w (x.tdiv y) * y))
def zi_div (x y : Int) : Int := zi_w (x.tdiv y)
def zi_and (x y : Int) : Int := (Int32.ofInt x &&& Int32.ofInt y).toInt
def zi_i2b (x : Int) : Int := (Int32.ofInt x).toInt8.toInt32.toInt
def zi_i2s (x : Int) : Int := (Int32.ofInt x).toInt16.toInt32.toInt
def zi_i2c (x : Int) : Int := ((Int32.ofInt x).toUInt32 % 65536).toInt32.toInt
def zi_find : List zC → Nat → Option (Instr × Nat × Int × List (Int × Nat))
  | [], _ => none
  | c :: r, pc => bif Nat.beq c.1 pc then some c.2 else zi_find r pc
def zi_cut : List (Nat × List Bool) → Nat → Option (List Bool)
  | [], _ => none
  | c :: r, pc => bif Nat.beq c.1 pc then some c.2 else zi_cut r pc
def zi_mask : List Bool → zL → zL
  | [], _ => []
  | _, [] => []
  | b :: m, v :: l => (bif b then v else none) :: zi_mask m l
def zi_get : zL → Nat → Option zV
  | [], _ => none
  | v :: _, 0 => v
  | _ :: l, i + 1 => zi_get l i
def zi_set : zL → Nat → zV → Option zL
  | [], _, _ => none
  | _ :: l, 0, v => some (some v :: l)
  | some (.inr (.inl x)) :: l, i + 1, v => match i with
    | 0 => none
    | i + 1 => (zi_set l (i + 1) v).map fun l' => some (.inr (.inl x)) :: l'
  | w :: l, i + 1, v => (zi_set l i v).map fun l' => w :: l'
def zi_ro (x : Int) : Option Nat := if x ≤ 0 then none else some (x.toNat - 1)
def zi_c1 : zV → Bool
  | .inr (.inl _) => false
  | _ => true
def zi_cats : List zV → Nat
  | [] => 0
  | .inr (.inl _) :: r => 2 + zi_cats r
  | _ :: r => 1 + zi_cats r
def zi_take : Nat → List zV → List zV → Option (List zV × List zV)
  | 0, acc, st => some (acc, st)
  | _ + 1, _, [] => none
  | n + 1, acc, v :: st => zi_take n (v :: acc) st
def zi_mkv (t : Nat) (x : Int) : zV := match t with
  | 3 => .inr (.inr x)
  | 4 => .inr (.inl x)
  | _ => .inl x
def zi_push (t : Nat) (x : Int) (r : List zV) : List zV := match t with
  | 0 => r
  | 3 => .inr (.inr x) :: r
  | 4 => .inr (.inl x) :: r
  | _ => .inl x :: r
def zi_up (M : Int → Int → Int) (a k v : Int) : Int → Int → Int := fun a' k' => if a' = a ∧ k' = k then v else M a' k'
def zi_wr (σ : zM) (a k v : Int) : zM := (σ.1, zi_up σ.2.1 a k v, σ.2.2)
def zi_wq (σ : zM) (a k v : Int) : zM := (σ.1, σ.2.1, zi_up σ.2.2.1 a k v, σ.2.2.2)
/-- what is at a place: a number, a reference -/
def zi_rd (σ : zM) (t : Nat) (a k : Int) : Int := match t with
  | 3 => σ.2.2.1 a k
  | _ => σ.2.1 a k
def zi_new (σ : zM) (kd : Nat) (n : Int) (sl : Nat) : zM := (fun x => if x = σ.2.2.2.1 then (kd, n) else σ.1 x, fun x k => if x = σ.2.2.2.1 then 0 else σ.2.1 x k, fun x k => if x = σ.2.2.2.1 then 0 else σ.2.2.1 x k, σ.2.2.2.1 + 1, σ.2.2.2.2 + sl)
def zi_if (c : Jvm.ClassFile.Cond) (x y : Int) (A B : zR) : zR := match c with
  | .eq => if x = y then A else B
  | .ne => if x = y then B else A
  | .lt => if x < y then A else B
  | .ge => if x < y then B else A
  | .gt => if y < x then A else B
  | .le => if y < x then B else A
def zi_sw : List (Int × Nat) → Nat → Int → (Nat → zR) → zR
  | [], d, _, k => k d
  | c :: r, d, x, k => if x = c.1 then k c.2 else zi_sw r d x k
/-- the kinds of the fields of each class of objects: 1 int, 2 boolean, 3 a reference -/
def zi_fts : List (List Nat) := [[1, 3, 3, 3], [3, 3, 1, 1], [3, 1, 1], [3, 3, 2], [1, 1, 1, 3, 3, 3, 3, 3, 3, 3, 3], [1, 3, 3], [3, 3], [1, 1, 1, 1], [2, 1, 1, 3], [3, 3, 1, 1, 1, 1], [3, 3, 3, 3, 3, 3, 3, 3, 1, 1], [3, 3, 3, 3, 1, 1, 1, 1, 1, 1, 1, 3, 1, 1, 3, 1, 1, 3, 3, 3, 3, 3, 1, 1, 3, 3, 3, 3, 3]]
def zi_ft (c k : Nat) : Nat := (zi_fts.getD c []).getD k 0
/-- one instruction; what follows is 'nx', a call is 'G' -/
def zi_ex (t : zT) (G : Nat → List zV → zM → zR) (nx : Nat → zL → List zV → zM → zR) (pc : Nat) (ls : zL) (st : List zV) (σ : zM) : zR :=
  match zi_find t.1 pc with
  | none => none
  | some (ins, a, b, sw) => match ins with
    | .iconst _ => nx (pc + 1) ls (.inl b :: st) σ
    | .bipush _ => nx (pc + 2) ls (.inl b :: st) σ
    | .sipush _ => nx (pc + 3) ls (.inl b :: st) σ
    | .ldc_w _ => nx (pc + 3) ls (.inl b :: st) σ
    | .lconst _ => nx (pc + 1) ls (.inr (.inl b) :: st) σ
    | .ldc2_w _ => nx (pc + 3) ls (.inr (.inl b) :: st) σ
    | .aconst_null => nx (pc + 1) ls (.inr (.inr 0) :: st) σ
    | .iload_n _ => match zi_get ls a with
      | some (.inl x) => nx (pc + 1) ls (.inl x :: st) σ
      | _ => none
    | .iload _ => match zi_get ls a with
      | some (.inl x) => nx (pc + 2) ls (.inl x :: st) σ
      | _ => none
    | .lload_n _ => match zi_get ls a with
      | some (.inr (.inl x)) => nx (pc + 1) ls (.inr (.inl x) :: st) σ
      | _ => none
    | .lload _ => match zi_get ls a with
      | some (.inr (.inl x)) => nx (pc + 2) ls (.inr (.inl x) :: st) σ
      | _ => none
    | .aload_n _ => match zi_get ls a with
      | some (.inr (.inr x)) => nx (pc + 1) ls (.inr (.inr x) :: st) σ
      | _ => none
    | .aload _ => match zi_get ls a with
      | some (.inr (.inr x)) => nx (pc + 2) ls (.inr (.inr x) :: st) σ
      | _ => none
    | .istore_n _ => match st with
      | .inl x :: r => match zi_set ls a (.inl x) with
        | some ls' => nx (pc + 1) ls' r σ
        | none => none
      | _ => none
    | .istore _ => match st with
      | .inl x :: r => match zi_set ls a (.inl x) with
        | some ls' => nx (pc + 2) ls' r σ
        | none => none
      | _ => none
    | .astore_n _ => match st with
      | .inr (.inr x) :: r => match zi_set ls a (.inr (.inr x)) with
        | some ls' => nx (pc + 1) ls' r σ
        | none => none
      | _ => none
    | .astore _ => match st with
      | .inr (.inr x) :: r => match zi_set ls a (.inr (.inr x)) with
        | some ls' => nx (pc + 2) ls' r σ
        | none => none
      | _ => none
    | .lstore_n _ => match st with
      | .inr (.inl x) :: r => match zi_set ls (a + 1) (.inl 0) with
        | some l1 => match zi_set l1 a (.inr (.inl x)) with
          | some l2 => nx (pc + 1) (zi_mask ((List.range l2.length).map fun i => !(Nat.beq i (a + 1))) l2) r σ
          | none => none
        | none => none
      | _ => none
    | .lstore _ => match st with
      | .inr (.inl x) :: r => match zi_set ls (a + 1) (.inl 0) with
        | some l1 => match zi_set l1 a (.inr (.inl x)) with
          | some l2 => nx (pc + 2) (zi_mask ((List.range l2.length).map fun i => !(Nat.beq i (a + 1))) l2) r σ
          | none => none
        | none => none
      | _ => none
    | .iinc _ _ => match zi_get ls a with
      | some (.inl x) => match zi_set ls a (.inl (zi_w (x + b))) with
        | some ls' => nx (pc + 3) ls' st σ
        | none => none
      | _ => none
    | .iadd => match st with
      | .inl y :: .inl x :: r => nx (pc + 1) ls (.inl (zi_w (x + y)) :: r) σ
      | _ => none
    | .isub => match st with
      | .inl y :: .inl x :: r => nx (pc + 1) ls (.inl (zi_w (x - y)) :: r) σ
      | _ => none
    | .imul => match st with
      | .inl y :: .inl x :: r => nx (pc + 1) ls (.inl (zi_w (x * y)) :: r) σ
      | _ => none
    | .idiv => match st with
      | .inl y :: .inl x :: r => if y = 0 then none else nx (pc + 1) ls (.inl (zi_div x y) :: r) σ
      | _ => none
    | .irem => match st with
      | .inl y :: .inl x :: r => if y = 0 then none else nx (pc + 1) ls (.inl (zi_rem x y) :: r) σ
      | _ => none
    | .iand => match st with
      | .inl y :: .inl x :: r => nx (pc + 1) ls (.inl (zi_and x y) :: r) σ
      | _ => none
    | .ladd => match st with
      | .inr (.inl y) :: .inr (.inl x) :: r => nx (pc + 1) ls (.inr (.inl (zi_w64 (x + y))) :: r) σ
      | _ => none
    | .lsub => match st with
      | .inr (.inl y) :: .inr (.inl x) :: r => nx (pc + 1) ls (.inr (.inl (zi_w64 (x - y))) :: r) σ
      | _ => none
    | .lcmp => match st with
      | .inr (.inl y) :: .inr (.inl x) :: r => nx (pc + 1) ls (.inl (if y < x then 1 else if x = y then 0 else -1) :: r) σ
      | _ => none
    | .i2l => match st with
      | .inl x :: r => nx (pc + 1) ls (.inr (.inl x) :: r) σ
      | _ => none
    | .l2i => match st with
      | .inr (.inl x) :: r => nx (pc + 1) ls (.inl (zi_w x) :: r) σ
      | _ => none
    | .i2b => match st with
      | .inl x :: r => nx (pc + 1) ls (.inl (zi_i2b x) :: r) σ
      | _ => none
    | .i2c => match st with
      | .inl x :: r => nx (pc + 1) ls (.inl (zi_i2c x) :: r) σ
      | _ => none
    | .i2s => match st with
      | .inl x :: r => nx (pc + 1) ls (.inl (zi_i2s x) :: r) σ
      | _ => none
    | .dup => match st with
      | v :: r => bif zi_c1 v then nx (pc + 1) ls (v :: v :: r) σ else none
      | _ => none
    | .dup2 => match st with
      | v :: w :: r => bif zi_c1 v && zi_c1 w then nx (pc + 1) ls (v :: w :: v :: w :: r) σ else none
      | _ => none
    | .pop => match st with
      | v :: r => bif zi_c1 v then nx (pc + 1) ls r σ else none
      | _ => none
    | .ifCond c _ => match st with
      | .inl x :: r => zi_if c x 0 (nx a ls r σ) (nx (pc + 3) ls r σ)
      | _ => none
    | .if_icmp c _ => match st with
      | .inl y :: .inl x :: r => zi_if c x y (nx a ls r σ) (nx (pc + 3) ls r σ)
      | _ => none
    | .ifnull _ => match st with
      | .inr (.inr x) :: r => if x = 0 then nx a ls r σ else nx (pc + 3) ls r σ
      | _ => none
    | .ifnonnull _ => match st with
      | .inr (.inr x) :: r => if x = 0 then nx (pc + 3) ls r σ else nx a ls r σ
      | _ => none
    | .goto _ => nx a ls st σ
    | .tableswitch _ _ _ _ => match st with
      | .inl x :: r => zi_sw sw a x fun pc' => nx pc' ls r σ
      | _ => none
    | .lookupswitch _ _ => match st with
      | .inl x :: r => zi_sw sw a x fun pc' => nx pc' ls r σ
      | _ => none
    | .getfield _ => match st with
      | .inr (.inr p) :: r => if (σ.1 p).1 = a then nx (pc + 3) ls (zi_mkv (zi_ft a b.toNat) (zi_rd σ (zi_ft a b.toNat) p b) :: r) σ else none
      | _ => none
    | .putfield _ => match zi_ft a b.toNat with
      | 1 => match st with
        | .inl v :: .inr (.inr p) :: r => if (σ.1 p).1 = a then nx (pc + 3) ls r (zi_wr σ p b v) else none
        | _ => none
      | 2 => match st with
        | .inl v :: .inr (.inr p) :: r => if (σ.1 p).1 = a ∧ (v = 0 ∨ v = 1) then nx (pc + 3) ls r (zi_wr σ p b v) else none
        | _ => none
      | 3 => match st with
        | .inr (.inr v) :: .inr (.inr p) :: r => if (σ.1 p).1 = a then nx (pc + 3) ls r (zi_wq σ p b v) else none
        | _ => none
      | _ => none
    | .iaload => match st with
      | .inl j :: .inr (.inr p) :: r => if (σ.1 p).1 = a ∧ 0 ≤ j ∧ j < (σ.1 p).2 then nx (pc + 1) ls (.inl (σ.2.1 p j) :: r) σ else none
      | _ => none
    | .iastore => match st with
      | .inl v :: .inl j :: .inr (.inr p) :: r => if (σ.1 p).1 = 12 ∧ 0 ≤ j ∧ j < (σ.1 p).2 then nx (pc + 1) ls r (zi_wr σ p j v) else none
      | _ => none
    | .baload => match st with
      | .inl j :: .inr (.inr p) :: r => if (σ.1 p).1 = 13 ∧ 0 ≤ j ∧ j < (σ.1 p).2 then nx (pc + 1) ls (.inl (σ.2.1 p j) :: r) σ else none
      | _ => none
    | .bastore => match st with
      | .inl v :: .inl j :: .inr (.inr p) :: r => if ((σ.1 p).1 = 13 ∧ 0 ≤ j ∧ j < (σ.1 p).2) ∧ (v = 0 ∨ v = 1) then nx (pc + 1) ls r (zi_wr σ p j v) else none
      | _ => none
    | .aaload => match st with
      | .inl j :: .inr (.inr p) :: r => if (σ.1 p).1 = a ∧ 0 ≤ j ∧ j < (σ.1 p).2 then nx (pc + 1) ls (.inr (.inr (σ.2.2.1 p j)) :: r) σ else none
      | _ => none
    | .aastore => match st with
      | .inr (.inr v) :: .inl j :: .inr (.inr p) :: r => if ((σ.1 p).1 = a ∧ 0 ≤ j ∧ j < (σ.1 p).2) ∧ ((σ.1 v).1 : Int) = b then nx (pc + 1) ls r (zi_wq σ p j v) else none
      | _ => none
    | .arraylength => match st with
      | .inr (.inr p) :: r => if (σ.1 p).1 = a then nx (pc + 1) ls (.inl (σ.1 p).2 :: r) σ else none
      | _ => none
    | .newarray _ => match st with
      | .inl n :: r => if 0 ≤ n ∧ n ≤ 100000 then nx (pc + 2) ls (.inr (.inr σ.2.2.2.1) :: r) (zi_new σ a n n.toNat) else none
      | _ => none
    | .anewarray _ => match st with
      | .inl n :: r => if 0 ≤ n ∧ n ≤ 100000 then nx (pc + 3) ls (.inr (.inr σ.2.2.2.1) :: r) (zi_new σ a n n.toNat) else none
      | _ => none
    | .new _ => nx (pc + 3) ls (.inr (.inr σ.2.2.2.1) :: st) (zi_new σ a 0 b.toNat)
    | .invokestatic _ => match sw with
      | (n, rk) :: _ => match zi_take n.toNat [] st with
        | some (args, r) => bif Nat.ble (zi_cats r) 8 then (G a args σ).bind fun q => nx (pc + 3) ls (zi_push rk q.1 r) q.2 else none
        | none => none
      | _ => none
    | .invokevirtual _ => match sw with
      | (n, rk) :: _ => match zi_take n.toNat [] st with
        | some (.inr (.inr p) :: args, r) => bif Nat.ble (zi_cats r) 8 then (if ((σ.1 p).1 : Int) = b then (G a (.inr (.inr p) :: args) σ).bind fun q => nx (pc + 3) ls (zi_push rk q.1 r) q.2 else none) else none
        | _ => none
      | _ => none
    | .invokespecial _ => match sw with
      | (n, rk) :: _ => match zi_take n.toNat [] st with
        | some (.inr (.inr p) :: args, r) => bif Nat.ble (zi_cats r) 8 then (if ((σ.1 p).1 : Int) = b then (G a (.inr (.inr p) :: args) σ).bind fun q => nx (pc + 3) ls (zi_push rk q.1 r) q.2 else none) else none
        | _ => none
      | _ => none
    | .ireturn => match st with
      | [.inl x] => match t.2.2.2 with
        | 1 => some (x, σ)
        | 2 => if x = 0 ∨ x = 1 then some (x, σ) else none
        | _ => none
      | _ => none
    | .areturn => match st with
      | [.inr (.inr x)] => match t.2.2.2 with
        | 3 => some (x, σ)
        | _ => none
      | _ => none
    | .return_ => match st with
      | [] => match t.2.2.2 with
        | 0 => some (0, σ)
        | _ => none
      | _ => none
    | _ => none
/-- a stretch of code up to a cut -/
def zi_fr (t : zT) (G : Nat → List zV → zM → zR) (K : Nat → zL → List zV → zM → zR) : Nat → Nat → zL → List zV → zM → zR
  | 0 => fun _ _ _ _ => none
  | n + 1 => fun pc ls st σ => zi_ex t G (fun pc' ls' st' σ' => match zi_cut t.2.1 pc' with
    | some live => K pc' (zi_mask live ls') st' σ'
    | none => zi_fr t G K n pc' ls' st' σ') pc ls st σ
def zi_run (t : zT) (G : Nat → List zV → zM → zR) : Nat → Nat → zL → List zV → zM → zR
  | 0 => fun _ _ _ _ => none
  | n + 1 => fun pc ls st σ => zi_fr t G (zi_run t G n) 600 pc ls st σ
/-- the locals at the entry -/
def zi_args : List zV → zL
  | [] => []
  | .inr (.inl x) :: r => some (.inr (.inl x)) :: none :: zi_args r
  | v :: r => some v :: zi_args r
def zi_loc (vs : List zV) (n : Nat) : zL := zi_args vs ++ List.replicate (n - (zi_args vs).length) none
def zi_cpy (M : Int → Int → Int) (p q s d n : Int) : Int → Int → Int := fun a k => if a = q ∧ d ≤ k ∧ k < d + n then M p (s + (k - d)) else M a k
/-- what is not bytecode of the class: Object(), Math, arraycopy -/
def zi_nat (j : Nat) (vs : List zV) (σ : zM) : zR := match j, vs with
  | 1000, [.inr (.inr _)] => some (0, σ)
  | 1001, [.inl x, .inl y] => some (if x < y then y else x, σ)
  | 1002, [.inl x, .inl y] => some (if y < x then y else x, σ)
  | 1003, [.inr (.inl x), .inr (.inl y)] => some (if y < x then x else y, σ)
  | 1004, [.inr (.inl x), .inr (.inl y)] => some (if y < x then y else x, σ)
  | 1005, [.inr (.inr p), .inl s, .inr (.inr q), .inl d, .inl n] => if ((σ.1 p).1 = 12 ∧ (σ.1 q).1 = 12) ∧ 0 ≤ s ∧ 0 ≤ d ∧ 0 ≤ n ∧ s + n ≤ (σ.1 p).2 ∧ d + n ≤ (σ.1 q).2 then some (0, (σ.1, zi_cpy σ.2.1 p q s d n, σ.2.2)) else none
  | _, _ => none
def zi_G (tab : Nat → zT) : Nat → Nat → List zV → zM → zR
  | 0 => fun _ _ _ => none
  | d + 1 => fun j vs σ => bif Nat.ble 1000 j then zi_nat j vs σ else bif Nat.ble (zi_args vs).length (tab j).2.2.1 then zi_run (tab j) (zi_G tab d) 20000 0 (zi_loc vs (tab j).2.2.1) [] σ else none
end
section
/-! whole numbers and the machine's -/
def zi_v : zV → Value
  | .inl x => .int (Int32.ofInt x)
  | .inr (.inl x) => .long (Int64.ofInt x)
  | .inr (.inr x) => va_rf (zi_ro x)
def zi_ir (x : Int) : Prop := -2147483648 ≤ x ∧ x < 2147483648
def zi_in : zV → Prop
  | .inl x => zi_ir x
  | .inr (.inl x) => -9223372036854775808 ≤ x ∧ x < 9223372036854775808
  | .inr (.inr x) => 0 ≤ x
theorem zi_w_ir (x : Int) : zi_ir (zi_w x) := by unfold zi_ir zi_w; omega
theorem zi_w_id {x : Int} (h : zi_ir x) : zi_w x = x := by unfold zi_ir at h; unfold zi_w; omega
theorem zi_bm (x : Int) : x.bmod (2 ^ 32) = zi_w x := by
  unfold zi_w Int.bmod
  simp only [Nat.reducePow]
  split <;> omega
theorem zi_bm64 (x : Int) : x.bmod (2 ^ 64) = zi_w64 x := by
  unfold zi_w64 Int.bmod
  simp only [Nat.reducePow]
  split <;> omega
theorem zi_oi (x : Int) : (Int32.ofInt x).toInt = zi_w x := by
  rw [Int32.toInt_ofInt]
  exact zi_bm x
theorem zi_oi' {x : Int} (h : zi_ir x) : (Int32.ofInt x).toInt = x := by rw [zi_oi, zi_w_id h]
theorem zi_ol (x : Int) : (Int64.ofInt x).toInt = zi_w64 x := by
  rw [Int64.toInt_ofInt]
  exact zi_bm64 x
theorem zi_ol' {x : Int} (h : zi_in (.inr (.inl x))) : (Int64.ofInt x).toInt = x := by
  rw [zi_ol]
  have h1 : -9223372036854775808 ≤ x ∧ x < 9223372036854775808 := h
  unfold zi_w64; omega
theorem zi_w64_in (x : Int) : zi_in (.inr (.inl (zi_w64 x))) := by
  show -9223372036854775808 ≤ zi_w64 x ∧ zi_w64 x < 9223372036854775808
  unfold zi_w64; omega
theorem zi_to (v : Int32) : Int32.ofInt v.toInt = v := Int32.ofInt_toInt v
theorem zi_tl (v : Int64) : Int64.ofInt v.toInt = v := Int64.ofInt_toInt v
theorem zi_to_ir (v : Int32) : zi_ir v.toInt := by
  have h := zi_oi v.toInt
  rw [zi_to] at h
  rw [h]; exact zi_w_ir _
theorem zi_tl_in (v : Int64) : zi_in (.inr (.inl v.toInt)) := by
  have h := zi_ol v.toInt
  rw [zi_tl] at h
  rw [h]; exact zi_w64_in _
theorem zi_eq32 {a : Int32} {x : Int} (h : a.toInt = x) : a = Int32.ofInt x := by rw [← h, zi_to]
theorem zi_eq64 {a : Int64} {x : Int} (h : a.toInt = x) : a = Int64.ofInt x := by rw [← h, zi_tl]
theorem zi_eqw {a : Int32} {x : Int} (h : a.toInt = zi_w x) : a = Int32.ofInt x := by
  apply Int32.toInt_inj.mp
  rw [h, zi_oi]
theorem zi_ofw (x : Int) : Int32.ofInt (zi_w x) = Int32.ofInt x := by
  apply Int32.toInt_inj.mp
  rw [zi_oi, zi_oi, zi_w_id (zi_w_ir x)]
theorem zi_add {x y : Int} (hx : zi_ir x) (hy : zi_ir y) : Int32.ofInt x + Int32.ofInt y = Int32.ofInt (zi_w (x + y)) := by
  apply zi_eq32
  rw [Int32.toInt_add, zi_oi' hx, zi_oi' hy, zi_bm]
theorem zi_sub {x y : Int} (hx : zi_ir x) (hy : zi_ir y) : Int32.ofInt x - Int32.ofInt y = Int32.ofInt (zi_w (x - y)) := by
  apply zi_eq32
  rw [Int32.toInt_sub, zi_oi' hx, zi_oi' hy, zi_bm]
theorem zi_mul {x y : Int} (hx : zi_ir x) (hy : zi_ir y) : Int32.ofInt x * Int32.ofInt y = Int32.ofInt (zi_w (x * y)) := by
  apply zi_eq32
  rw [Int32.toInt_mul, zi_oi' hx, zi_oi' hy, zi_bm]
theorem zi_divE {x y : Int} (hx : zi_ir x) (hy : zi_ir y) : Int32.ofInt x / Int32.ofInt y = Int32.ofInt (zi_div x y) := by
  apply zi_eq32
  rw [Int32.toInt_div, zi_oi' hx, zi_oi' hy, zi_bm]
  rfl
theorem zi_remE {x y : Int} (hx : zi_ir x) (hy : zi_ir y) : Int32.ofInt x - Int32.ofInt x / Int32.ofInt y * Int32.ofInt y = Int32.ofInt (zi_rem x y) := by
  rw [zi_divE hx hy, zi_mul (show zi_ir (zi_div x y) from zi_w_ir _) hy, zi_sub hx (zi_w_ir _)]
  rfl
theorem zi_lt {x y : Int} (hx : zi_ir x) (hy : zi_ir y) : Int32.ofInt x < Int32.ofInt y ↔ x < y := by
  rw [Int32.lt_iff_toInt_lt, zi_oi' hx, zi_oi' hy]
theorem zi_le {x y : Int} (hx : zi_ir x) (hy : zi_ir y) : Int32.ofInt x ≤ Int32.ofInt y ↔ x ≤ y := by
  rw [Int32.le_iff_toInt_le, zi_oi' hx, zi_oi' hy]
theorem zi_eq {x y : Int} (hx : zi_ir x) (hy : zi_ir y) : Int32.ofInt x = Int32.ofInt y ↔ x = y := by
  rw [← Int32.toInt_inj, zi_oi' hx, zi_oi' hy]
theorem zi_z : (0 : Int32) = Int32.ofInt 0 := by decide
theorem zi_ir0 : zi_ir 0 := by unfold zi_ir; omega
theorem zi_ladd {x y : Int} (hx : zi_in (.inr (.inl x))) (hy : zi_in (.inr (.inl y))) : Int64.ofInt x + Int64.ofInt y = Int64.ofInt (zi_w64 (x + y)) := by
  apply zi_eq64
  rw [Int64.toInt_add, zi_ol' hx, zi_ol' hy, zi_bm64]
theorem zi_lsub {x y : Int} (hx : zi_in (.inr (.inl x))) (hy : zi_in (.inr (.inl y))) : Int64.ofInt x - Int64.ofInt y = Int64.ofInt (zi_w64 (x - y)) := by
  apply zi_eq64
  rw [Int64.toInt_sub, zi_ol' hx, zi_ol' hy, zi_bm64]
theorem zi_llt {x y : Int} (hx : zi_in (.inr (.inl x))) (hy : zi_in (.inr (.inl y))) : Int64.ofInt x < Int64.ofInt y ↔ x < y := by
  rw [Int64.lt_iff_toInt_lt, zi_ol' hx, zi_ol' hy]
theorem zi_leq {x y : Int} (hx : zi_in (.inr (.inl x))) (hy : zi_in (.inr (.inl y))) : Int64.ofInt x = Int64.ofInt y ↔ x = y := by
  rw [← Int64.toInt_inj, zi_ol' hx, zi_ol' hy]
theorem zi_cmp {x y : Int} (hx : zi_in (.inr (.inl x))) (hy : zi_in (.inr (.inl y))) : lg_cmp (Int64.ofInt x) (Int64.ofInt y) = Int32.ofInt (if y < x then 1 else if x = y then 0 else -1) := by
  unfold lg_cmp
  by_cases h1 : y < x
  · rw [if_pos h1, if_pos ((zi_llt hy hx).mpr h1)]; decide
  · rw [if_neg h1, if_neg (fun q => h1 ((zi_llt hy hx).mp q))]
    by_cases h2 : x = y
    · rw [if_pos h2, if_pos ((zi_leq hx hy).mpr h2)]; decide
    · rw [if_neg h2, if_neg (fun q => h2 ((zi_leq hx hy).mp q))]; decide
theorem zi_i2l {x : Int} (hx : zi_ir x) : (Int32.ofInt x).toInt64 = Int64.ofInt x := by
  apply zi_eq64
  rw [Int32.toInt_toInt64, zi_oi' hx]
theorem zi_i2l_in {x : Int} (hx : zi_ir x) : zi_in (.inr (.inl x)) := by
  show -9223372036854775808 ≤ x ∧ x < 9223372036854775808
  unfold zi_ir at hx; omega
theorem zi_l2i {x : Int} (hx : zi_in (.inr (.inl x))) : (Int64.ofInt x).toInt32 = Int32.ofInt (zi_w x) := by
  apply zi_eq32
  rw [Int64.toInt_toInt32, zi_ol' hx, zi_bm]
theorem zi_andE (x y : Int) : Int32.ofInt x &&& Int32.ofInt y = Int32.ofInt (zi_and x y) := zi_eq32 rfl
theorem zi_and_ir (x y : Int) : zi_ir (zi_and x y) := zi_to_ir _
theorem zi_i2bE (x : Int) : (Int32.ofInt x).toInt8.toInt32 = Int32.ofInt (zi_i2b x) := zi_eq32 rfl
theorem zi_i2sE (x : Int) : (Int32.ofInt x).toInt16.toInt32 = Int32.ofInt (zi_i2s x) := zi_eq32 rfl
theorem zi_i2cE (x : Int) : ((Int32.ofInt x).toUInt32 % 65536).toInt32 = Int32.ofInt (zi_i2c x) := zi_eq32 rfl
theorem zi_max {x y : Int} (hx : zi_ir x) (hy : zi_ir y) : (if Int32.ofInt x < Int32.ofInt y then Int32.ofInt y else Int32.ofInt x) = Int32.ofInt (if x < y then y else x) := by
  by_cases h : x < y
  · rw [if_pos h, if_pos ((zi_lt hx hy).mpr h)]
  · rw [if_neg h, if_neg (fun q => h ((zi_lt hx hy).mp q))]
theorem zi_min {x y : Int} (hx : zi_ir x) (hy : zi_ir y) : (if Int32.ofInt y < Int32.ofInt x then Int32.ofInt y else Int32.ofInt x) = Int32.ofInt (if y < x then y else x) := by
  by_cases h : y < x
  · rw [if_pos h, if_pos ((zi_lt hy hx).mpr h)]
  · rw [if_neg h, if_neg (fun q => h ((zi_lt hy hx).mp q))]
theorem zi_lmax {x y : Int} (hx : zi_in (.inr (.inl x))) (hy : zi_in (.inr (.inl y))) : (if Int64.ofInt y < Int64.ofInt x then Int64.ofInt x else Int64.ofInt y) = Int64.ofInt (if y < x then x else y) := by
  by_cases h : y < x
  · rw [if_pos h, if_pos ((zi_llt hy hx).mpr h)]
  · rw [if_neg h, if_neg (fun q => h ((zi_llt hy hx).mp q))]
theorem zi_lmin {x y : Int} (hx : zi_in (.inr (.inl x))) (hy : zi_in (.inr (.inl y))) : (if Int64.ofInt y < Int64.ofInt x then Int64.ofInt y else Int64.ofInt x) = Int64.ofInt (if y < x then y else x) := by
  by_cases h : y < x
  · rw [if_pos h, if_pos ((zi_llt hy hx).mpr h)]
  · rw [if_neg h, if_neg (fun q => h ((zi_llt hy hx).mp q))]
/-- an index -/
theorem zi_idx {j n : Int} (hj : zi_ir j) (h0 : 0 ≤ j) (hn : j < n) : vp_in (Int32.ofInt j) n.toNat ∧ ((Int32.ofInt j).toNatClampNeg : Int) = j := by
  have h1 : (Int32.ofInt j).toNatClampNeg = j.toNat := by
    show (Int32.ofInt j).toInt.toNat = _
    rw [zi_oi' hj]
  refine ⟨?_, by rw [h1]; omega⟩
  rintro (h | h)
  · rw [zi_z, zi_lt hj zi_ir0] at h; omega
  · rw [h1] at h; omega
end
section
/-! names: classes, fields, methods (out of the printed names) -/
def RX0 : String := "FoldedRows$Folds"
def TX0 : u_T := fun k => match k with
  | 0 => ("FoldedRows$Folds", "count", "I", false)
  | 1 => ("FoldedRows$Folds", "firsts", "[I", true)
  | 2 => ("FoldedRows$Folds", "lasts", "[I", true)
  | _ => ("FoldedRows$Folds", "shuts", "[I", true)
def tyX0 : Nat → FieldType := fun k => match k with
  | 0 => .int
  | 1 => .array .int
  | 2 => .array .int
  | _ => .array .int
theorem nmX0 : ∀ a, a < 4 → ∀ b, b < 4 → a ≠ b → (TX0 a).2.1 ≠ (TX0 b).2.1 := by decide +kernel
theorem tyX0_ok : ∀ k, k < 4 → parseFieldDescriptor (TX0 k).2.2.1 = some (tyX0 k) := by decide +kernel
abbrev cX0_init : ByteArray := prog_2_method_1_code
def yX0_init : MethodName := ⟨RX0, "<init>", "()V"⟩
abbrev cX0_has : ByteArray := prog_2_method_2_code
def yX0_has : MethodName := ⟨RX0, "has", "(I)Z"⟩
abbrev cX0_firstOf : ByteArray := prog_2_method_3_code
def yX0_firstOf : MethodName := ⟨RX0, "firstOf", "(I)I"⟩
abbrev cX0_lastOf : ByteArray := prog_2_method_4_code
def yX0_lastOf : MethodName := ⟨RX0, "lastOf", "(I)I"⟩
abbrev cX0_isShut : ByteArray := prog_2_method_5_code
def yX0_isShut : MethodName := ⟨RX0, "isShut", "(I)Z"⟩
abbrev cX0_setShut : ByteArray := prog_2_method_6_code
def yX0_setShut : MethodName := ⟨RX0, "setShut", "(II)V"⟩
abbrev cX0_shutCount : ByteArray := prog_2_method_7_code
def yX0_shutCount : MethodName := ⟨RX0, "shutCount", "()I"⟩
abbrev cX0_depthOf : ByteArray := prog_2_method_8_code
def yX0_depthOf : MethodName := ⟨RX0, "depthOf", "(I)I"⟩
abbrev cX0_hides : ByteArray := prog_2_method_9_code
def yX0_hides : MethodName := ⟨RX0, "hides", "(I)Z"⟩
abbrev cX0_shutsBehind : ByteArray := prog_2_method_10_code
def yX0_shutsBehind : MethodName := ⟨RX0, "shutsBehind", "(I)Z"⟩
abbrev cX0_clash : ByteArray := prog_2_method_11_code
def yX0_clash : MethodName := ⟨RX0, "clash", "(II)Z"⟩
abbrev cX0_add : ByteArray := prog_2_method_12_code
def yX0_add : MethodName := ⟨RX0, "add", "(II)I"⟩
abbrev cX0_drop : ByteArray := prog_2_method_13_code
def yX0_drop : MethodName := ⟨RX0, "drop", "(I)V"⟩
abbrev cX0_clear : ByteArray := prog_2_method_14_code
def yX0_clear : MethodName := ⟨RX0, "clear", "()V"⟩
abbrev cX0_followSplit : ByteArray := prog_2_method_15_code
def yX0_followSplit : MethodName := ⟨RX0, "followSplit", "(I)V"⟩
abbrev cX0_followJoin : ByteArray := prog_2_method_16_code
def yX0_followJoin : MethodName := ⟨RX0, "followJoin", "(I)V"⟩
abbrev cX0_copyFrom : ByteArray := prog_2_method_17_code
def yX0_copyFrom : MethodName := ⟨RX0, "copyFrom", "(LFoldedRows$Folds;)V"⟩
abbrev cX0_areAtOdds : ByteArray := prog_2_method_18_code
def yX0_areAtOdds : MethodName := ⟨RX0, "areAtOdds", "(IIII)Z"⟩
abbrev cX0_comeAhead : ByteArray := prog_2_method_19_code
def yX0_comeAhead : MethodName := ⟨RX0, "comeAhead", "(IIII)Z"⟩
abbrev cX0_write : ByteArray := prog_2_method_20_code
def yX0_write : MethodName := ⟨RX0, "write", "(IIII)V"⟩
def RX1 : String := "FoldedRows$Frame"
def TX1 : u_T := fun k => match k with
  | 0 => ("FoldedRows$Frame", "lines", "LFoldedRows$Lines;", true)
  | 1 => ("FoldedRows$Frame", "folds", "LFoldedRows$Folds;", true)
  | 2 => ("FoldedRows$Frame", "caretLine", "I", false)
  | _ => ("FoldedRows$Frame", "caretPlace", "I", false)
def tyX1 : Nat → FieldType := fun k => match k with
  | 0 => .object "FoldedRows$Lines"
  | 1 => .object "FoldedRows$Folds"
  | 2 => .int
  | _ => .int
theorem nmX1 : ∀ a, a < 4 → ∀ b, b < 4 → a ≠ b → (TX1 a).2.1 ≠ (TX1 b).2.1 := by decide +kernel
theorem tyX1_ok : ∀ k, k < 4 → parseFieldDescriptor (TX1 k).2.2.1 = some (tyX1 k) := by decide +kernel
abbrev cX1_init : ByteArray := prog_3_method_1_code
def yX1_init : MethodName := ⟨RX1, "<init>", "()V"⟩
abbrev cX1_clear : ByteArray := prog_3_method_2_code
def yX1_clear : MethodName := ⟨RX1, "clear", "()V"⟩
abbrev cX1_copyFrom : ByteArray := prog_3_method_3_code
def yX1_copyFrom : MethodName := ⟨RX1, "copyFrom", "(LFoldedRows$Frame;)V"⟩
abbrev cX1_hiddenLines : ByteArray := prog_3_method_4_code
def yX1_hiddenLines : MethodName := ⟨RX1, "hiddenLines", "()I"⟩
abbrev cX1_shownLineAhead : ByteArray := prog_3_method_5_code
def yX1_shownLineAhead : MethodName := ⟨RX1, "shownLineAhead", "()I"⟩
abbrev cX1_shownLineBehind : ByteArray := prog_3_method_6_code
def yX1_shownLineBehind : MethodName := ⟨RX1, "shownLineBehind", "()I"⟩
def RX2 : String := "FoldedRows$History"
def TX2 : u_T := fun k => match k with
  | 0 => ("FoldedRows$History", "slots", "[LFoldedRows$Frame;", true)
  | 1 => ("FoldedRows$History", "done", "I", false)
  | _ => ("FoldedRows$History", "undone", "I", false)
def tyX2 : Nat → FieldType := fun k => match k with
  | 0 => .array (.object "FoldedRows$Frame")
  | 1 => .int
  | _ => .int
theorem nmX2 : ∀ a, a < 3 → ∀ b, b < 3 → a ≠ b → (TX2 a).2.1 ≠ (TX2 b).2.1 := by decide +kernel
theorem tyX2_ok : ∀ k, k < 3 → parseFieldDescriptor (TX2 k).2.2.1 = some (tyX2 k) := by decide +kernel
abbrev cX2_init : ByteArray := prog_4_method_1_code
def yX2_init : MethodName := ⟨RX2, "<init>", "()V"⟩
abbrev cX2_forget : ByteArray := prog_4_method_2_code
def yX2_forget : MethodName := ⟨RX2, "forget", "()V"⟩
abbrev cX2_remember : ByteArray := prog_4_method_3_code
def yX2_remember : MethodName := ⟨RX2, "remember", "(LFoldedRows$Frame;)V"⟩
abbrev cX2_takeBack : ByteArray := prog_4_method_4_code
def yX2_takeBack : MethodName := ⟨RX2, "takeBack", "(LFoldedRows$Frame;)LFoldedRows$Frame;"⟩
abbrev cX2_doAgain : ByteArray := prog_4_method_5_code
def yX2_doAgain : MethodName := ⟨RX2, "doAgain", "(LFoldedRows$Frame;)LFoldedRows$Frame;"⟩
abbrev cX2_exchange : ByteArray := prog_4_method_6_code
def yX2_exchange : MethodName := ⟨RX2, "exchange", "(ILFoldedRows$Frame;)LFoldedRows$Frame;"⟩
abbrev cX2_dropOldest : ByteArray := prog_4_method_7_code
def yX2_dropOldest : MethodName := ⟨RX2, "dropOldest", "()V"⟩
def RX3 : String := "FoldedRows$Image"
def TX3 : u_T := fun k => match k with
  | 0 => ("FoldedRows$Image", "frame", "LFoldedRows$Frame;", true)
  | 1 => ("FoldedRows$Image", "settings", "LFoldedRows$Settings;", true)
  | _ => ("FoldedRows$Image", "there", "Z", false)
def tyX3 : Nat → FieldType := fun k => match k with
  | 0 => .object "FoldedRows$Frame"
  | 1 => .object "FoldedRows$Settings"
  | _ => .boolean
theorem nmX3 : ∀ a, a < 3 → ∀ b, b < 3 → a ≠ b → (TX3 a).2.1 ≠ (TX3 b).2.1 := by decide +kernel
theorem tyX3_ok : ∀ k, k < 3 → parseFieldDescriptor (TX3 k).2.2.1 = some (tyX3 k) := by decide +kernel
abbrev cX3_init : ByteArray := prog_5_method_1_code
def yX3_init : MethodName := ⟨RX3, "<init>", "()V"⟩
def RX4 : String := "FoldedRows$LaidLine"
def TX4 : u_T := fun k => match k with
  | 0 => ("FoldedRows$LaidLine", "size", "I", false)
  | 1 => ("FoldedRows$LaidLine", "rows", "I", false)
  | 2 => ("FoldedRows$LaidLine", "indent", "I", false)
  | 3 => ("FoldedRows$LaidLine", "rowOfPlace", "[I", true)
  | 4 => ("FoldedRows$LaidLine", "columnOfPlace", "[I", true)
  | 5 => ("FoldedRows$LaidLine", "cellsOfSign", "[I", true)
  | 6 => ("FoldedRows$LaidLine", "hangs", "[I", true)
  | 7 => ("FoldedRows$LaidLine", "stops", "[I", true)
  | 8 => ("FoldedRows$LaidLine", "breaks", "[I", true)
  | 9 => ("FoldedRows$LaidLine", "rowBegins", "[I", true)
  | _ => ("FoldedRows$LaidLine", "columnsBehind", "[I", true)
def tyX4 : Nat → FieldType := fun k => match k with
  | 0 => .int
  | 1 => .int
  | 2 => .int
  | 3 => .array .int
  | 4 => .array .int
  | 5 => .array .int
  | 6 => .array .int
  | 7 => .array .int
  | 8 => .array .int
  | 9 => .array .int
  | _ => .array .int
theorem nmX4 : ∀ a, a < 11 → ∀ b, b < 11 → a ≠ b → (TX4 a).2.1 ≠ (TX4 b).2.1 := by decide +kernel
theorem tyX4_ok : ∀ k, k < 11 → parseFieldDescriptor (TX4 k).2.2.1 = some (tyX4 k) := by decide +kernel
abbrev cX4_init : ByteArray := prog_6_method_1_code
def yX4_init : MethodName := ⟨RX4, "<init>", "()V"⟩
abbrev cX4_arrange : ByteArray := prog_6_method_2_code
def yX4_arrange : MethodName := ⟨RX4, "arrange", "(LFoldedRows$Lines;ILFoldedRows$Settings;)V"⟩
abbrev cX4_stopCount : ByteArray := prog_6_method_3_code
def yX4_stopCount : MethodName := ⟨RX4, "stopCount", "()I"⟩
abbrev cX4_breakCount : ByteArray := prog_6_method_4_code
def yX4_breakCount : MethodName := ⟨RX4, "breakCount", "()I"⟩
abbrev cX4_hangCount : ByteArray := prog_6_method_5_code
def yX4_hangCount : MethodName := ⟨RX4, "hangCount", "()I"⟩
abbrev cX4_isStop : ByteArray := prog_6_method_6_code
def yX4_isStop : MethodName := ⟨RX4, "isStop", "(I)Z"⟩
abbrev cX4_isBreak : ByteArray := prog_6_method_7_code
def yX4_isBreak : MethodName := ⟨RX4, "isBreak", "(I)Z"⟩
abbrev cX4_rowOf : ByteArray := prog_6_method_8_code
def yX4_rowOf : MethodName := ⟨RX4, "rowOf", "(I)I"⟩
abbrev cX4_columnOf : ByteArray := prog_6_method_9_code
def yX4_columnOf : MethodName := ⟨RX4, "columnOf", "(I)I"⟩
abbrev cX4_firstPlace : ByteArray := prog_6_method_10_code
def yX4_firstPlace : MethodName := ⟨RX4, "firstPlace", "(I)I"⟩
abbrev cX4_firstColumn : ByteArray := prog_6_method_11_code
def yX4_firstColumn : MethodName := ⟨RX4, "firstColumn", "(I)I"⟩
abbrev cX4_columnBehind : ByteArray := prog_6_method_12_code
def yX4_columnBehind : MethodName := ⟨RX4, "columnBehind", "(I)I"⟩
abbrev cX4_placeCovering : ByteArray := prog_6_method_13_code
def yX4_placeCovering : MethodName := ⟨RX4, "placeCovering", "(II)I"⟩
abbrev cX4_placeNear : ByteArray := prog_6_method_14_code
def yX4_placeNear : MethodName := ⟨RX4, "placeNear", "(II)I"⟩
abbrev cX4_stopFrom : ByteArray := prog_6_method_15_code
def yX4_stopFrom : MethodName := ⟨RX4, "stopFrom", "(I)I"⟩
abbrev cX4_stopBehind : ByteArray := prog_6_method_16_code
def yX4_stopBehind : MethodName := ⟨RX4, "stopBehind", "(I)I"⟩
abbrev cX4_stopAhead : ByteArray := prog_6_method_17_code
def yX4_stopAhead : MethodName := ⟨RX4, "stopAhead", "(I)I"⟩
abbrev cX4_leadingCells : ByteArray := prog_6_method_18_code
def yX4_leadingCells : MethodName := ⟨RX4, "leadingCells", "(LFoldedRows$Lines;ILFoldedRows$Settings;)I"⟩
abbrev cX4_findBreaks : ByteArray := prog_6_method_19_code
def yX4_findBreaks : MethodName := ⟨RX4, "findBreaks", "(LFoldedRows$Lines;I)V"⟩
abbrev cX4_findStops : ByteArray := prog_6_method_20_code
def yX4_findStops : MethodName := ⟨RX4, "findStops", "(LFoldedRows$Lines;I)V"⟩
abbrev cX4_fillRow : ByteArray := prog_6_method_21_code
def yX4_fillRow : MethodName := ⟨RX4, "fillRow", "(LFoldedRows$Lines;IILFoldedRows$Settings;)I"⟩
abbrev cX4_rowEnd : ByteArray := prog_6_method_22_code
def yX4_rowEnd : MethodName := ⟨RX4, "rowEnd", "(II)I"⟩
def RX5 : String := "FoldedRows$Lines"
def TX5 : u_T := fun k => match k with
  | 0 => ("FoldedRows$Lines", "count", "I", false)
  | 1 => ("FoldedRows$Lines", "lengths", "[I", true)
  | _ => ("FoldedRows$Lines", "signs", "[I", true)
def tyX5 : Nat → FieldType := fun k => match k with
  | 0 => .int
  | 1 => .array .int
  | _ => .array .int
theorem nmX5 : ∀ a, a < 3 → ∀ b, b < 3 → a ≠ b → (TX5 a).2.1 ≠ (TX5 b).2.1 := by decide +kernel
theorem tyX5_ok : ∀ k, k < 3 → parseFieldDescriptor (TX5 k).2.2.1 = some (tyX5 k) := by decide +kernel
abbrev cX5_init : ByteArray := prog_7_method_1_code
def yX5_init : MethodName := ⟨RX5, "<init>", "()V"⟩
abbrev cX5_has : ByteArray := prog_7_method_2_code
def yX5_has : MethodName := ⟨RX5, "has", "(I)Z"⟩
abbrev cX5_hasPlace : ByteArray := prog_7_method_3_code
def yX5_hasPlace : MethodName := ⟨RX5, "hasPlace", "(II)Z"⟩
abbrev cX5_length : ByteArray := prog_7_method_4_code
def yX5_length : MethodName := ⟨RX5, "length", "(I)I"⟩
abbrev cX5_total : ByteArray := prog_7_method_5_code
def yX5_total : MethodName := ⟨RX5, "total", "()I"⟩
abbrev cX5_signOf : ByteArray := prog_7_method_6_code
def yX5_signOf : MethodName := ⟨RX5, "signOf", "(II)I"⟩
abbrev cX5_clear : ByteArray := prog_7_method_7_code
def yX5_clear : MethodName := ⟨RX5, "clear", "()V"⟩
abbrev cX5_addLine : ByteArray := prog_7_method_8_code
def yX5_addLine : MethodName := ⟨RX5, "addLine", "()V"⟩
abbrev cX5_append : ByteArray := prog_7_method_9_code
def yX5_append : MethodName := ⟨RX5, "append", "(II)V"⟩
abbrev cX5_insert : ByteArray := prog_7_method_10_code
def yX5_insert : MethodName := ⟨RX5, "insert", "(III)V"⟩
abbrev cX5_remove : ByteArray := prog_7_method_11_code
def yX5_remove : MethodName := ⟨RX5, "remove", "(III)V"⟩
abbrev cX5_divide : ByteArray := prog_7_method_12_code
def yX5_divide : MethodName := ⟨RX5, "divide", "(II)V"⟩
abbrev cX5_joinWithNext : ByteArray := prog_7_method_13_code
def yX5_joinWithNext : MethodName := ⟨RX5, "joinWithNext", "(I)V"⟩
abbrev cX5_copyFrom : ByteArray := prog_7_method_14_code
def yX5_copyFrom : MethodName := ⟨RX5, "copyFrom", "(LFoldedRows$Lines;)V"⟩
abbrev cX5_copyLine : ByteArray := prog_7_method_15_code
def yX5_copyLine : MethodName := ⟨RX5, "copyLine", "(II)V"⟩
abbrev cX5_appendPart : ByteArray := prog_7_method_16_code
def yX5_appendPart : MethodName := ⟨RX5, "appendPart", "(III)V"⟩
abbrev cX5_writeSign : ByteArray := prog_7_method_17_code
def yX5_writeSign : MethodName := ⟨RX5, "writeSign", "(III)V"⟩
def RX6 : String := "FoldedRows$Numbers"
def TX6 : u_T := fun k => match k with
  | _ => ("", "", "", false)
def tyX6 : Nat → FieldType := fun k => match k with
  | _ => .int
theorem nmX6 : ∀ a, a < 0 → ∀ b, b < 0 → a ≠ b → (TX6 a).2.1 ≠ (TX6 b).2.1 := by decide +kernel
theorem tyX6_ok : ∀ k, k < 0 → parseFieldDescriptor (TX6 k).2.2.1 = some (tyX6 k) := by decide +kernel
abbrev cX6_pick : ByteArray := prog_8_method_2_code
def yX6_pick : MethodName := ⟨RX6, "pick", "([II)I"⟩
abbrev cX6_put : ByteArray := prog_8_method_3_code
def yX6_put : MethodName := ⟨RX6, "put", "([III)V"⟩
abbrev cX6_copy : ByteArray := prog_8_method_4_code
def yX6_copy : MethodName := ⟨RX6, "copy", "([I[I)V"⟩
abbrev cX6_sum : ByteArray := prog_8_method_5_code
def yX6_sum : MethodName := ⟨RX6, "sum", "([II)I"⟩
def RX7 : String := "FoldedRows$Screen"
def TX7 : u_T := fun k => match k with
  | 0 => ("FoldedRows$Screen", "laid", "[LFoldedRows$LaidLine;", true)
  | _ => ("FoldedRows$Screen", "nowhere", "LFoldedRows$LaidLine;", true)
def tyX7 : Nat → FieldType := fun k => match k with
  | 0 => .array (.object "FoldedRows$LaidLine")
  | _ => .object "FoldedRows$LaidLine"
theorem nmX7 : ∀ a, a < 2 → ∀ b, b < 2 → a ≠ b → (TX7 a).2.1 ≠ (TX7 b).2.1 := by decide +kernel
theorem tyX7_ok : ∀ k, k < 2 → parseFieldDescriptor (TX7 k).2.2.1 = some (tyX7 k) := by decide +kernel
abbrev cX7_init : ByteArray := prog_9_method_1_code
def yX7_init : MethodName := ⟨RX7, "<init>", "()V"⟩
abbrev cX7_laidLine : ByteArray := prog_9_method_2_code
def yX7_laidLine : MethodName := ⟨RX7, "laidLine", "(I)LFoldedRows$LaidLine;"⟩
abbrev cX7_layLines : ByteArray := prog_9_method_3_code
def yX7_layLines : MethodName := ⟨RX7, "layLines", "(LFoldedRows$Lines;LFoldedRows$Settings;)V"⟩
abbrev cX7_rowCount : ByteArray := prog_9_method_4_code
def yX7_rowCount : MethodName := ⟨RX7, "rowCount", "(LFoldedRows$Frame;)I"⟩
abbrev cX7_firstRowOf : ByteArray := prog_9_method_5_code
def yX7_firstRowOf : MethodName := ⟨RX7, "firstRowOf", "(LFoldedRows$Frame;I)I"⟩
abbrev cX7_rowOf : ByteArray := prog_9_method_6_code
def yX7_rowOf : MethodName := ⟨RX7, "rowOf", "(LFoldedRows$Frame;II)I"⟩
abbrev cX7_lineOfRow : ByteArray := prog_9_method_7_code
def yX7_lineOfRow : MethodName := ⟨RX7, "lineOfRow", "(LFoldedRows$Frame;I)I"⟩
def RX8 : String := "FoldedRows$Settings"
def TX8 : u_T := fun k => match k with
  | 0 => ("FoldedRows$Settings", "width", "I", false)
  | 1 => ("FoldedRows$Settings", "tabs", "I", false)
  | 2 => ("FoldedRows$Settings", "mode", "I", false)
  | _ => ("FoldedRows$Settings", "extra", "I", false)
def tyX8 : Nat → FieldType := fun k => match k with
  | 0 => .int
  | 1 => .int
  | 2 => .int
  | _ => .int
theorem nmX8 : ∀ a, a < 4 → ∀ b, b < 4 → a ≠ b → (TX8 a).2.1 ≠ (TX8 b).2.1 := by decide +kernel
theorem tyX8_ok : ∀ k, k < 4 → parseFieldDescriptor (TX8 k).2.2.1 = some (tyX8 k) := by decide +kernel
abbrev cX8_init : ByteArray := prog_10_method_1_code
def yX8_init : MethodName := ⟨RX8, "<init>", "()V"⟩
abbrev cX8_allows : ByteArray := prog_10_method_2_code
def yX8_allows : MethodName := ⟨RX8, "allows", "(II)Z"⟩
abbrev cX8_change : ByteArray := prog_10_method_3_code
def yX8_change : MethodName := ⟨RX8, "change", "(II)I"⟩
abbrev cX8_copyFrom : ByteArray := prog_10_method_4_code
def yX8_copyFrom : MethodName := ⟨RX8, "copyFrom", "(LFoldedRows$Settings;)V"⟩
abbrev cX8_cellsToTabStop : ByteArray := prog_10_method_5_code
def yX8_cellsToTabStop : MethodName := ⟨RX8, "cellsToTabStop", "(I)I"⟩
abbrev cX8_cellsOf : ByteArray := prog_10_method_6_code
def yX8_cellsOf : MethodName := ⟨RX8, "cellsOf", "(III)I"⟩
abbrev cX8_fits : ByteArray := prog_10_method_7_code
def yX8_fits : MethodName := ⟨RX8, "fits", "(III)Z"⟩
def RX9 : String := "FoldedRows$Sheet"
def TX9 : u_T := fun k => match k with
  | 0 => ("FoldedRows$Sheet", "there", "Z", false)
  | 1 => ("FoldedRows$Sheet", "lane", "I", false)
  | 2 => ("FoldedRows$Sheet", "size", "I", false)
  | _ => ("FoldedRows$Sheet", "cells", "[I", true)
def tyX9 : Nat → FieldType := fun k => match k with
  | 0 => .boolean
  | 1 => .int
  | 2 => .int
  | _ => .array .int
theorem nmX9 : ∀ a, a < 4 → ∀ b, b < 4 → a ≠ b → (TX9 a).2.1 ≠ (TX9 b).2.1 := by decide +kernel
theorem tyX9_ok : ∀ k, k < 4 → parseFieldDescriptor (TX9 k).2.2.1 = some (tyX9 k) := by decide +kernel
abbrev cX9_init : ByteArray := prog_11_method_1_code
def yX9_init : MethodName := ⟨RX9, "<init>", "()V"⟩
abbrev cX9_hasLane : ByteArray := prog_11_method_2_code
def yX9_hasLane : MethodName := ⟨RX9, "hasLane", "(I)Z"⟩
abbrev cX9_renew : ByteArray := prog_11_method_3_code
def yX9_renew : MethodName := ⟨RX9, "renew", "(II)V"⟩
abbrev cX9_read : ByteArray := prog_11_method_4_code
def yX9_read : MethodName := ⟨RX9, "read", "(I)I"⟩
abbrev cX9_write : ByteArray := prog_11_method_5_code
def yX9_write : MethodName := ⟨RX9, "write", "(II)V"⟩
abbrev cX9_faultOfSigns : ByteArray := prog_11_method_6_code
def yX9_faultOfSigns : MethodName := ⟨RX9, "faultOfSigns", "(III)I"⟩
abbrev cX9_lowestBits : ByteArray := prog_11_method_7_code
def yX9_lowestBits : MethodName := ⟨RX9, "lowestBits", "(I)I"⟩
def RX10 : String := "FoldedRows$Tape"
def TX10 : u_T := fun k => match k with
  | 0 => ("FoldedRows$Tape", "bytes", "[I", true)
  | 1 => ("FoldedRows$Tape", "begun", "[I", true)
  | 2 => ("FoldedRows$Tape", "size", "I", false)
  | 3 => ("FoldedRows$Tape", "faultPlace", "I", false)
  | 4 => ("FoldedRows$Tape", "open", "I", false)
  | _ => ("FoldedRows$Tape", "begunInAll", "I", false)
def tyX10 : Nat → FieldType := fun k => match k with
  | 0 => .array .int
  | 1 => .array .int
  | 2 => .int
  | 3 => .int
  | 4 => .int
  | _ => .int
theorem nmX10 : ∀ a, a < 6 → ∀ b, b < 6 → a ≠ b → (TX10 a).2.1 ≠ (TX10 b).2.1 := by decide +kernel
theorem tyX10_ok : ∀ k, k < 6 → parseFieldDescriptor (TX10 k).2.2.1 = some (tyX10 k) := by decide +kernel
abbrev cX10_init : ByteArray := prog_12_method_1_code
def yX10_init : MethodName := ⟨RX10, "<init>", "()V"⟩
abbrev cX10_append : ByteArray := prog_12_method_2_code
def yX10_append : MethodName := ⟨RX10, "append", "(I)Z"⟩
abbrev cX10_readInto : ByteArray := prog_12_method_3_code
def yX10_readInto : MethodName := ⟨RX10, "readInto", "(LFoldedRows$Frame;)I"⟩
abbrev cX10_readByte : ByteArray := prog_12_method_4_code
def yX10_readByte : MethodName := ⟨RX10, "readByte", "(ILFoldedRows$Frame;)I"⟩
abbrev cX10_endLine : ByteArray := prog_12_method_5_code
def yX10_endLine : MethodName := ⟨RX10, "endLine", "(LFoldedRows$Lines;)I"⟩
abbrev cX10_beginFold : ByteArray := prog_12_method_6_code
def yX10_beginFold : MethodName := ⟨RX10, "beginFold", "(I)I"⟩
abbrev cX10_endFold : ByteArray := prog_12_method_7_code
def yX10_endFold : MethodName := ⟨RX10, "endFold", "(LFoldedRows$Folds;I)I"⟩
def RX11 : String := "FoldedRows"
def TX11 : u_T := fun k => match k with
  | 0 => ("FoldedRows", "tape", "LFoldedRows$Tape;", true)
  | 1 => ("FoldedRows", "settings", "LFoldedRows$Settings;", true)
  | 2 => ("FoldedRows", "history", "LFoldedRows$History;", true)
  | 3 => ("FoldedRows", "screen", "LFoldedRows$Screen;", true)
  | 4 => ("FoldedRows", "images", "[LFoldedRows$Image;", true)
  | 5 => ("FoldedRows", "sheets", "[LFoldedRows$Sheet;", true)
  | 6 => ("FoldedRows", "now", "LFoldedRows$Frame;", false)
  | 7 => ("FoldedRows", "spare", "LFoldedRows$Frame;", false)
  | 8 => ("FoldedRows", "goal", "I", false)
  | _ => ("FoldedRows", "latestFault", "I", false)
def tyX11 : Nat → FieldType := fun k => match k with
  | 0 => .object "FoldedRows$Tape"
  | 1 => .object "FoldedRows$Settings"
  | 2 => .object "FoldedRows$History"
  | 3 => .object "FoldedRows$Screen"
  | 4 => .array (.object "FoldedRows$Image")
  | 5 => .array (.object "FoldedRows$Sheet")
  | 6 => .object "FoldedRows$Frame"
  | 7 => .object "FoldedRows$Frame"
  | 8 => .int
  | _ => .int
theorem nmX11 : ∀ a, a < 10 → ∀ b, b < 10 → a ≠ b → (TX11 a).2.1 ≠ (TX11 b).2.1 := by decide +kernel
theorem tyX11_ok : ∀ k, k < 10 → parseFieldDescriptor (TX11 k).2.2.1 = some (tyX11 k) := by decide +kernel
abbrev cX11_init : ByteArray := prog_1_method_1_code
def yX11_init : MethodName := ⟨RX11, "<init>", "()V"⟩
abbrev cX11_feed : ByteArray := prog_1_method_2_code
def yX11_feed : MethodName := ⟨RX11, "feed", "(I)I"⟩
abbrev cX11_end : ByteArray := prog_1_method_3_code
def yX11_end : MethodName := ⟨RX11, "end", "(I)I"⟩
abbrev cX11_text : ByteArray := prog_1_method_4_code
def yX11_text : MethodName := ⟨RX11, "text", "()I"⟩
abbrev cX11_fault : ByteArray := prog_1_method_5_code
def yX11_fault : MethodName := ⟨RX11, "fault", "()I"⟩
abbrev cX11_rule : ByteArray := prog_1_method_6_code
def yX11_rule : MethodName := ⟨RX11, "rule", "(I)I"⟩
abbrev cX11_sign : ByteArray := prog_1_method_7_code
def yX11_sign : MethodName := ⟨RX11, "sign", "(II)I"⟩
abbrev cX11_line : ByteArray := prog_1_method_8_code
def yX11_line : MethodName := ⟨RX11, "line", "(II)I"⟩
abbrev cX11_row : ByteArray := prog_1_method_9_code
def yX11_row : MethodName := ⟨RX11, "row", "(II)I"⟩
abbrev cX11_cell : ByteArray := prog_1_method_10_code
def yX11_cell : MethodName := ⟨RX11, "cell", "(II)I"⟩
abbrev cX11_at : ByteArray := prog_1_method_11_code
def yX11_at : MethodName := ⟨RX11, "at", "(III)I"⟩
abbrev cX11_to : ByteArray := prog_1_method_12_code
def yX11_to : MethodName := ⟨RX11, "to", "(II)I"⟩
abbrev cX11_fold : ByteArray := prog_1_method_13_code
def yX11_fold : MethodName := ⟨RX11, "fold", "(II)I"⟩
abbrev cX11_caret : ByteArray := prog_1_method_14_code
def yX11_caret : MethodName := ⟨RX11, "caret", "(I)I"⟩
abbrev cX11_go : ByteArray := prog_1_method_15_code
def yX11_go : MethodName := ⟨RX11, "go", "(II)I"⟩
abbrev cX11_step : ByteArray := prog_1_method_16_code
def yX11_step : MethodName := ⟨RX11, "step", "(I)I"⟩
abbrev cX11_down : ByteArray := prog_1_method_17_code
def yX11_down : MethodName := ⟨RX11, "down", "(I)I"⟩
abbrev cX11_edge : ByteArray := prog_1_method_18_code
def yX11_edge : MethodName := ⟨RX11, "edge", "(I)I"⟩
abbrev cX11_type : ByteArray := prog_1_method_19_code
def yX11_type : MethodName := ⟨RX11, "type", "(I)I"⟩
abbrev cX11_erase : ByteArray := prog_1_method_20_code
def yX11_erase : MethodName := ⟨RX11, "erase", "()I"⟩
abbrev cX11_split : ByteArray := prog_1_method_21_code
def yX11_split : MethodName := ⟨RX11, "split", "()I"⟩
abbrev cX11_undo : ByteArray := prog_1_method_22_code
def yX11_undo : MethodName := ⟨RX11, "undo", "()I"⟩
abbrev cX11_redo : ByteArray := prog_1_method_23_code
def yX11_redo : MethodName := ⟨RX11, "redo", "()I"⟩
abbrev cX11_wrap : ByteArray := prog_1_method_24_code
def yX11_wrap : MethodName := ⟨RX11, "wrap", "(II)I"⟩
abbrev cX11_shut : ByteArray := prog_1_method_25_code
def yX11_shut : MethodName := ⟨RX11, "shut", "(II)I"⟩
abbrev cX11_unwrap : ByteArray := prog_1_method_26_code
def yX11_unwrap : MethodName := ⟨RX11, "unwrap", "(I)I"⟩
abbrev cX11_set : ByteArray := prog_1_method_27_code
def yX11_set : MethodName := ⟨RX11, "set", "(II)I"⟩
abbrev cX11_keep : ByteArray := prog_1_method_28_code
def yX11_keep : MethodName := ⟨RX11, "keep", "(I)I"⟩
abbrev cX11_back : ByteArray := prog_1_method_29_code
def yX11_back : MethodName := ⟨RX11, "back", "(I)I"⟩
abbrev cX11_sheet : ByteArray := prog_1_method_30_code
def yX11_sheet : MethodName := ⟨RX11, "sheet", "(III)I"⟩
abbrev cX11_lay : ByteArray := prog_1_method_31_code
def yX11_lay : MethodName := ⟨RX11, "lay", "(III)I"⟩
abbrev cX11_paste : ByteArray := prog_1_method_32_code
def yX11_paste : MethodName := ⟨RX11, "paste", "(IIII)I"⟩
abbrev cX11_joinWithLineAhead : ByteArray := prog_1_method_33_code
def yX11_joinWithLineAhead : MethodName := ⟨RX11, "joinWithLineAhead", "()I"⟩
abbrev cX11_layAll : ByteArray := prog_1_method_34_code
def yX11_layAll : MethodName := ⟨RX11, "layAll", "()V"⟩
abbrev cX11_layCaretLine : ByteArray := prog_1_method_35_code
def yX11_layCaretLine : MethodName := ⟨RX11, "layCaretLine", "()V"⟩
abbrev cX11_settleCaret : ByteArray := prog_1_method_36_code
def yX11_settleCaret : MethodName := ⟨RX11, "settleCaret", "()V"⟩
abbrev cX11_moveCaret : ByteArray := prog_1_method_37_code
def yX11_moveCaret : MethodName := ⟨RX11, "moveCaret", "(II)V"⟩
abbrev cX11_caretRow : ByteArray := prog_1_method_38_code
def yX11_caretRow : MethodName := ⟨RX11, "caretRow", "()I"⟩
abbrev cX11_caretColumn : ByteArray := prog_1_method_39_code
def yX11_caretColumn : MethodName := ⟨RX11, "caretColumn", "()I"⟩
abbrev cX11_imageCount : ByteArray := prog_1_method_40_code
def yX11_imageCount : MethodName := ⟨RX11, "imageCount", "()I"⟩
abbrev cX11_forgetImage : ByteArray := prog_1_method_41_code
def yX11_forgetImage : MethodName := ⟨RX11, "forgetImage", "(I)V"⟩
abbrev cX11_imageOf : ByteArray := prog_1_method_42_code
def yX11_imageOf : MethodName := ⟨RX11, "imageOf", "(I)LFoldedRows$Image;"⟩
abbrev cX11_sheetOf : ByteArray := prog_1_method_43_code
def yX11_sheetOf : MethodName := ⟨RX11, "sheetOf", "(I)LFoldedRows$Sheet;"⟩
abbrev cX11_isWide : ByteArray := prog_1_method_44_code
def yX11_isWide : MethodName := ⟨RX11, "isWide", "(I)Z"⟩
abbrev cX11_isGap : ByteArray := prog_1_method_45_code
def yX11_isGap : MethodName := ⟨RX11, "isGap", "(I)Z"⟩
abbrev cX11_isSign : ByteArray := prog_1_method_46_code
def yX11_isSign : MethodName := ⟨RX11, "isSign", "(I)Z"⟩
abbrev cX11_letsBreakBehind : ByteArray := prog_1_method_47_code
def yX11_letsBreakBehind : MethodName := ⟨RX11, "letsBreakBehind", "(I)Z"⟩
def RX12 : String := "FoldedRowsModel"
def TX12 : u_T := fun k => match k with
  | 0 => ("FoldedRowsModel", "page", "[I", true)
  | 1 => ("FoldedRowsModel", "draft", "[I", true)
  | 2 => ("FoldedRowsModel", "done", "[I", true)
  | 3 => ("FoldedRowsModel", "undone", "[I", true)
  | 4 => ("FoldedRowsModel", "doneMany", "I", false)
  | 5 => ("FoldedRowsModel", "undoneMany", "I", false)
  | 6 => ("FoldedRowsModel", "width", "I", false)
  | 7 => ("FoldedRowsModel", "tabs", "I", false)
  | 8 => ("FoldedRowsModel", "mode", "I", false)
  | 9 => ("FoldedRowsModel", "extra", "I", false)
  | 10 => ("FoldedRowsModel", "goal", "I", false)
  | 11 => ("FoldedRowsModel", "tape", "[I", true)
  | 12 => ("FoldedRowsModel", "taped", "I", false)
  | 13 => ("FoldedRowsModel", "fault", "I", false)
  | 14 => ("FoldedRowsModel", "begun", "[I", true)
  | 15 => ("FoldedRowsModel", "begunMany", "I", false)
  | 16 => ("FoldedRowsModel", "begins", "I", false)
  | 17 => ("FoldedRowsModel", "rowAt", "[I", true)
  | 18 => ("FoldedRowsModel", "columnAt", "[I", true)
  | 19 => ("FoldedRowsModel", "cellsAt", "[I", true)
  | 20 => ("FoldedRowsModel", "hangsAt", "[Z", true)
  | 21 => ("FoldedRowsModel", "rowBegins", "[I", true)
  | 22 => ("FoldedRowsModel", "rows", "I", false)
  | 23 => ("FoldedRowsModel", "indent", "I", false)
  | 24 => ("FoldedRowsModel", "isKept", "[Z", true)
  | 25 => ("FoldedRowsModel", "kept", "[I", true)
  | 26 => ("FoldedRowsModel", "lanes", "[I", true)
  | 27 => ("FoldedRowsModel", "sizes", "[I", true)
  | _ => ("FoldedRowsModel", "cells", "[I", true)
def tyX12 : Nat → FieldType := fun k => match k with
  | 0 => .array .int
  | 1 => .array .int
  | 2 => .array .int
  | 3 => .array .int
  | 4 => .int
  | 5 => .int
  | 6 => .int
  | 7 => .int
  | 8 => .int
  | 9 => .int
  | 10 => .int
  | 11 => .array .int
  | 12 => .int
  | 13 => .int
  | 14 => .array .int
  | 15 => .int
  | 16 => .int
  | 17 => .array .int
  | 18 => .array .int
  | 19 => .array .int
  | 20 => .array .boolean
  | 21 => .array .int
  | 22 => .int
  | 23 => .int
  | 24 => .array .boolean
  | 25 => .array .int
  | 26 => .array .int
  | 27 => .array .int
  | _ => .array .int
theorem nmX12 : ∀ a, a < 29 → ∀ b, b < 29 → a ≠ b → (TX12 a).2.1 ≠ (TX12 b).2.1 := by decide +kernel
theorem tyX12_ok : ∀ k, k < 29 → parseFieldDescriptor (TX12 k).2.2.1 = some (tyX12 k) := by decide +kernel
abbrev cX12_init : ByteArray := prog_14_method_1_code
def yX12_init : MethodName := ⟨RX12, "<init>", "()V"⟩
abbrev cX12_in : ByteArray := prog_14_method_3_code
def yX12_in : MethodName := ⟨RX12, "in", "(JJJ)Z"⟩
abbrev cX12_isNarrow : ByteArray := prog_14_method_4_code
def yX12_isNarrow : MethodName := ⟨RX12, "isNarrow", "(I)Z"⟩
abbrev cX12_isWide : ByteArray := prog_14_method_5_code
def yX12_isWide : MethodName := ⟨RX12, "isWide", "(I)Z"⟩
abbrev cX12_isSign : ByteArray := prog_14_method_6_code
def yX12_isSign : MethodName := ⟨RX12, "isSign", "(I)Z"⟩
abbrev cX12_lengthOf : ByteArray := prog_14_method_7_code
def yX12_lengthOf : MethodName := ⟨RX12, "lengthOf", "(I)I"⟩
abbrev cX12_signOf : ByteArray := prog_14_method_8_code
def yX12_signOf : MethodName := ⟨RX12, "signOf", "(II)I"⟩
abbrev cX12_firstOf : ByteArray := prog_14_method_9_code
def yX12_firstOf : MethodName := ⟨RX12, "firstOf", "(I)I"⟩
abbrev cX12_lastOf : ByteArray := prog_14_method_10_code
def yX12_lastOf : MethodName := ⟨RX12, "lastOf", "(I)I"⟩
abbrev cX12_isShut : ByteArray := prog_14_method_11_code
def yX12_isShut : MethodName := ⟨RX12, "isShut", "(I)Z"⟩
abbrev cX12_isHidden : ByteArray := prog_14_method_12_code
def yX12_isHidden : MethodName := ⟨RX12, "isHidden", "(I)Z"⟩
abbrev cX12_has : ByteArray := prog_14_method_13_code
def yX12_has : MethodName := ⟨RX12, "has", "(IIII)Z"⟩
abbrev cX12_crosses : ByteArray := prog_14_method_14_code
def yX12_crosses : MethodName := ⟨RX12, "crosses", "(IIII)Z"⟩
abbrev cX12_isAgainst : ByteArray := prog_14_method_15_code
def yX12_isAgainst : MethodName := ⟨RX12, "isAgainst", "([III)Z"⟩
abbrev cX12_comes : ByteArray := prog_14_method_16_code
def yX12_comes : MethodName := ⟨RX12, "comes", "([IIII)I"⟩
abbrev cX12_feed : ByteArray := prog_14_method_17_code
def yX12_feed : MethodName := ⟨RX12, "feed", "(I)I"⟩
abbrev cX12_end : ByteArray := prog_14_method_18_code
def yX12_end : MethodName := ⟨RX12, "end", "(I)I"⟩
abbrev cX12_faultOfSign : ByteArray := prog_14_method_19_code
def yX12_faultOfSign : MethodName := ⟨RX12, "faultOfSign", "(I)I"⟩
abbrev cX12_faultOfEnd : ByteArray := prog_14_method_20_code
def yX12_faultOfEnd : MethodName := ⟨RX12, "faultOfEnd", "()I"⟩
abbrev cX12_faultOfByte : ByteArray := prog_14_method_21_code
def yX12_faultOfByte : MethodName := ⟨RX12, "faultOfByte", "(I)I"⟩
abbrev cX12_text : ByteArray := prog_14_method_22_code
def yX12_text : MethodName := ⟨RX12, "text", "()I"⟩
abbrev cX12_fault : ByteArray := prog_14_method_23_code
def yX12_fault : MethodName := ⟨RX12, "fault", "()I"⟩
abbrev cX12_cellsOf : ByteArray := prog_14_method_24_code
def yX12_cellsOf : MethodName := ⟨RX12, "cellsOf", "(III)I"⟩
abbrev cX12_indentOf : ByteArray := prog_14_method_25_code
def yX12_indentOf : MethodName := ⟨RX12, "indentOf", "(I)I"⟩
abbrev cX12_isBreak : ByteArray := prog_14_method_26_code
def yX12_isBreak : MethodName := ⟨RX12, "isBreak", "(II)Z"⟩
abbrev cX12_endOfRow : ByteArray := prog_14_method_27_code
def yX12_endOfRow : MethodName := ⟨RX12, "endOfRow", "(III)I"⟩
abbrev cX12_laysSign : ByteArray := prog_14_method_28_code
def yX12_laysSign : MethodName := ⟨RX12, "laysSign", "(IIIZ)V"⟩
abbrev cX12_begins : ByteArray := prog_14_method_29_code
def yX12_begins : MethodName := ⟨RX12, "begins", "(I)V"⟩
abbrev cX12_lays : ByteArray := prog_14_method_30_code
def yX12_lays : MethodName := ⟨RX12, "lays", "(I)V"⟩
abbrev cX12_isStop : ByteArray := prog_14_method_31_code
def yX12_isStop : MethodName := ⟨RX12, "isStop", "(II)Z"⟩
abbrev cX12_rowsOf : ByteArray := prog_14_method_32_code
def yX12_rowsOf : MethodName := ⟨RX12, "rowsOf", "(I)I"⟩
abbrev cX12_firstRow : ByteArray := prog_14_method_33_code
def yX12_firstRow : MethodName := ⟨RX12, "firstRow", "(I)I"⟩
abbrev cX12_screenRows : ByteArray := prog_14_method_34_code
def yX12_screenRows : MethodName := ⟨RX12, "screenRows", "()I"⟩
abbrev cX12_lineOfRow : ByteArray := prog_14_method_35_code
def yX12_lineOfRow : MethodName := ⟨RX12, "lineOfRow", "(I)I"⟩
abbrev cX12_signs : ByteArray := prog_14_method_36_code
def yX12_signs : MethodName := ⟨RX12, "signs", "()I"⟩
abbrev cX12_hiddenLines : ByteArray := prog_14_method_37_code
def yX12_hiddenLines : MethodName := ⟨RX12, "hiddenLines", "()I"⟩
abbrev cX12_shutFolds : ByteArray := prog_14_method_38_code
def yX12_shutFolds : MethodName := ⟨RX12, "shutFolds", "()I"⟩
abbrev cX12_rule : ByteArray := prog_14_method_39_code
def yX12_rule : MethodName := ⟨RX12, "rule", "(I)I"⟩
abbrev cX12_isLine : ByteArray := prog_14_method_40_code
def yX12_isLine : MethodName := ⟨RX12, "isLine", "(I)Z"⟩
abbrev cX12_sign : ByteArray := prog_14_method_41_code
def yX12_sign : MethodName := ⟨RX12, "sign", "(II)I"⟩
abbrev cX12_counted : ByteArray := prog_14_method_42_code
def yX12_counted : MethodName := ⟨RX12, "counted", "(II)I"⟩
abbrev cX12_line : ByteArray := prog_14_method_43_code
def yX12_line : MethodName := ⟨RX12, "line", "(II)I"⟩
abbrev cX12_isRow : ByteArray := prog_14_method_44_code
def yX12_isRow : MethodName := ⟨RX12, "isRow", "(I)Z"⟩
abbrev cX12_endColumn : ByteArray := prog_14_method_45_code
def yX12_endColumn : MethodName := ⟨RX12, "endColumn", "(I)I"⟩
abbrev cX12_row : ByteArray := prog_14_method_46_code
def yX12_row : MethodName := ⟨RX12, "row", "(II)I"⟩
abbrev cX12_cell : ByteArray := prog_14_method_47_code
def yX12_cell : MethodName := ⟨RX12, "cell", "(II)I"⟩
abbrev cX12_at : ByteArray := prog_14_method_48_code
def yX12_at : MethodName := ⟨RX12, "at", "(III)I"⟩
abbrev cX12_placeOf : ByteArray := prog_14_method_49_code
def yX12_placeOf : MethodName := ⟨RX12, "placeOf", "(III)I"⟩
abbrev cX12_to : ByteArray := prog_14_method_50_code
def yX12_to : MethodName := ⟨RX12, "to", "(II)I"⟩
abbrev cX12_fold : ByteArray := prog_14_method_51_code
def yX12_fold : MethodName := ⟨RX12, "fold", "(II)I"⟩
abbrev cX12_caretRow : ByteArray := prog_14_method_52_code
def yX12_caretRow : MethodName := ⟨RX12, "caretRow", "()I"⟩
abbrev cX12_caretColumn : ByteArray := prog_14_method_53_code
def yX12_caretColumn : MethodName := ⟨RX12, "caretColumn", "()I"⟩
abbrev cX12_caret : ByteArray := prog_14_method_54_code
def yX12_caret : MethodName := ⟨RX12, "caret", "(I)I"⟩
abbrev cX12_settles : ByteArray := prog_14_method_55_code
def yX12_settles : MethodName := ⟨RX12, "settles", "()V"⟩
abbrev cX12_go : ByteArray := prog_14_method_56_code
def yX12_go : MethodName := ⟨RX12, "go", "(II)I"⟩
abbrev cX12_stopAhead : ByteArray := prog_14_method_57_code
def yX12_stopAhead : MethodName := ⟨RX12, "stopAhead", "(II)I"⟩
abbrev cX12_stopBehind : ByteArray := prog_14_method_58_code
def yX12_stopBehind : MethodName := ⟨RX12, "stopBehind", "(II)I"⟩
abbrev cX12_step : ByteArray := prog_14_method_59_code
def yX12_step : MethodName := ⟨RX12, "step", "(I)I"⟩
abbrev cX12_down : ByteArray := prog_14_method_60_code
def yX12_down : MethodName := ⟨RX12, "down", "(I)I"⟩
abbrev cX12_edge : ByteArray := prog_14_method_61_code
def yX12_edge : MethodName := ⟨RX12, "edge", "(I)I"⟩
abbrev cX12_copies : ByteArray := prog_14_method_62_code
def yX12_copies : MethodName := ⟨RX12, "copies", "([II[II)V"⟩
abbrev cX12_isDone : ByteArray := prog_14_method_63_code
def yX12_isDone : MethodName := ⟨RX12, "isDone", "()V"⟩
abbrev cX12_edits : ByteArray := prog_14_method_64_code
def yX12_edits : MethodName := ⟨RX12, "edits", "()V"⟩
abbrev cX12_spreads : ByteArray := prog_14_method_65_code
def yX12_spreads : MethodName := ⟨RX12, "spreads", "(I)V"⟩
abbrev cX12_type : ByteArray := prog_14_method_66_code
def yX12_type : MethodName := ⟨RX12, "type", "(I)I"⟩
abbrev cX12_erases : ByteArray := prog_14_method_67_code
def yX12_erases : MethodName := ⟨RX12, "erases", "()I"⟩
abbrev cX12_copiesLine : ByteArray := prog_14_method_68_code
def yX12_copiesLine : MethodName := ⟨RX12, "copiesLine", "(II)V"⟩
abbrev cX12_joinsFolds : ByteArray := prog_14_method_69_code
def yX12_joinsFolds : MethodName := ⟨RX12, "joinsFolds", "(I)V"⟩
abbrev cX12_joins : ByteArray := prog_14_method_70_code
def yX12_joins : MethodName := ⟨RX12, "joins", "()I"⟩
abbrev cX12_erase : ByteArray := prog_14_method_71_code
def yX12_erase : MethodName := ⟨RX12, "erase", "()I"⟩
abbrev cX12_isShutAt : ByteArray := prog_14_method_72_code
def yX12_isShutAt : MethodName := ⟨RX12, "isShutAt", "(I)Z"⟩
abbrev cX12_split : ByteArray := prog_14_method_73_code
def yX12_split : MethodName := ⟨RX12, "split", "()I"⟩
abbrev cX12_undo : ByteArray := prog_14_method_74_code
def yX12_undo : MethodName := ⟨RX12, "undo", "()I"⟩
abbrev cX12_redo : ByteArray := prog_14_method_75_code
def yX12_redo : MethodName := ⟨RX12, "redo", "()I"⟩
abbrev cX12_wrap : ByteArray := prog_14_method_76_code
def yX12_wrap : MethodName := ⟨RX12, "wrap", "(II)I"⟩
abbrev cX12_isFold : ByteArray := prog_14_method_77_code
def yX12_isFold : MethodName := ⟨RX12, "isFold", "(I)Z"⟩
abbrev cX12_shut : ByteArray := prog_14_method_78_code
def yX12_shut : MethodName := ⟨RX12, "shut", "(II)I"⟩
abbrev cX12_unwrap : ByteArray := prog_14_method_79_code
def yX12_unwrap : MethodName := ⟨RX12, "unwrap", "(I)I"⟩
abbrev cX12_setting : ByteArray := prog_14_method_80_code
def yX12_setting : MethodName := ⟨RX12, "setting", "(I)I"⟩
abbrev cX12_sets : ByteArray := prog_14_method_81_code
def yX12_sets : MethodName := ⟨RX12, "sets", "(II)V"⟩
abbrev cX12_set : ByteArray := prog_14_method_82_code
def yX12_set : MethodName := ⟨RX12, "set", "(II)I"⟩
abbrev cX12_keep : ByteArray := prog_14_method_83_code
def yX12_keep : MethodName := ⟨RX12, "keep", "(I)I"⟩
abbrev cX12_back : ByteArray := prog_14_method_84_code
def yX12_back : MethodName := ⟨RX12, "back", "(I)I"⟩
abbrev cX12_isSheet : ByteArray := prog_14_method_85_code
def yX12_isSheet : MethodName := ⟨RX12, "isSheet", "(II)Z"⟩
abbrev cX12_sheet : ByteArray := prog_14_method_86_code
def yX12_sheet : MethodName := ⟨RX12, "sheet", "(III)I"⟩
abbrev cX12_lay : ByteArray := prog_14_method_87_code
def yX12_lay : MethodName := ⟨RX12, "lay", "(III)I"⟩
abbrev cX12_paste : ByteArray := prog_14_method_88_code
def yX12_paste : MethodName := ⟨RX12, "paste", "(IIII)I"⟩
def RL : String := "FoldedRowsLaw"
abbrev cL_law : ByteArray := code
def yL_law : MethodName := ⟨RL, "law", "([I)Z"⟩
abbrev vwCl : List vw_C := [(RX0, TX0, 4), (RX1, TX1, 4), (RX2, TX2, 3), (RX3, TX3, 3), (RX4, TX4, 11), (RX5, TX5, 3), (RX7, TX7, 2), (RX8, TX8, 4), (RX9, TX9, 4), (RX10, TX10, 6), (RX11, TX11, 10), (RX12, TX12, 29)]
theorem zi_mem {big ws : List Jvm.Cond} (ps : List Nat) (h : ws.map some = ps.map (fun i => big[i]?)) : ∀ w ∈ ws, w ∈ big := by
  intro w hw
  have h1 : some w ∈ ws.map some := List.mem_map.mpr ⟨w, hw, rfl⟩
  rw [h] at h1
  obtain ⟨i, -, hi⟩ := List.mem_map.mp h1
  exact List.mem_of_getElem? hi
/-- the words that a callee may be told -/
def zi_tb : List Jvm.Cond := lw_tbl.filter goodWord
theorem zi_tb_of {w : Jvm.Cond} (h : w ∈ lw_tbl) (g : goodWord w = true) : w ∈ zi_tb := List.mem_filter.mpr ⟨h, g⟩
theorem zi_mem2 {ws : List Jvm.Cond} (ps : List Nat) (h : ws.map some = ps.map (fun i => lw_tbl[i]?)) (g : ws.all goodWord = true) : ∀ w ∈ ws, w ∈ zi_tb := fun w hw => zi_tb_of (zi_mem ps h w hw) (List.all_eq_true.mp g w hw)
theorem zi_inX0 : ∀ w ∈ u_ws RX0 TX0 4, w ∈ zi_tb := zi_mem2 [194, 196, 198, 200] (by decide +kernel) (by decide +kernel)
theorem zi_inX1 : ∀ w ∈ u_ws RX1 TX1 4, w ∈ zi_tb := zi_mem2 [215, 217, 219, 221] (by decide +kernel) (by decide +kernel)
theorem zi_inX2 : ∀ w ∈ u_ws RX2 TX2 3, w ∈ zi_tb := zi_mem2 [229, 231, 233] (by decide +kernel) (by decide +kernel)
theorem zi_inX3 : ∀ w ∈ u_ws RX3 TX3 3, w ∈ zi_tb := zi_mem2 [314, 316, 318] (by decide +kernel) (by decide +kernel)
theorem zi_inX4 : ∀ w ∈ u_ws RX4 TX4 11, w ∈ zi_tb := zi_mem2 [263, 265, 267, 269, 271, 273, 275, 277, 279, 281, 283] (by decide +kernel) (by decide +kernel)
theorem zi_inX5 : ∀ w ∈ u_ws RX5 TX5 3, w ∈ zi_tb := zi_mem2 [176, 178, 180] (by decide +kernel) (by decide +kernel)
theorem zi_inX7 : ∀ w ∈ u_ws RX7 TX7 2, w ∈ zi_tb := zi_mem2 [288, 290] (by decide +kernel) (by decide +kernel)
theorem zi_inX8 : ∀ w ∈ u_ws RX8 TX8 4, w ∈ zi_tb := zi_mem2 [141, 143, 145, 147] (by decide +kernel) (by decide +kernel)
theorem zi_inX9 : ∀ w ∈ u_ws RX9 TX9 4, w ∈ zi_tb := zi_mem2 [332, 334, 336, 338] (by decide +kernel) (by decide +kernel)
theorem zi_inX10 : ∀ w ∈ u_ws RX10 TX10 6, w ∈ zi_tb := zi_mem2 [110, 112, 114, 116, 118, 120] (by decide +kernel) (by decide +kernel)
theorem zi_inX11 : ∀ w ∈ u_ws RX11 TX11 10, w ∈ zi_tb := zi_mem2 [476, 478, 480, 482, 484, 486, 488, 490, 492, 494] (by decide +kernel) (by decide +kernel)
theorem zi_inX12 : ∀ w ∈ u_ws RX12 TX12 29, w ∈ zi_tb := zi_mem2 [1026, 1028, 1030, 1032, 1034, 1036, 1038, 1040, 1042, 1044, 1046, 1048, 1050, 1052, 1054, 1056, 1058, 1060, 1062, 1064, 1066, 1068, 1070, 1072, 1074, 1076, 1078, 1080, 1082] (by decide +kernel) (by decide +kernel)
/-- what is known of a class of objects, by its kind -/
def zi_tk (k : Nat) (ty : FieldType) : Prop := match k with
  | 1 => ty = .int
  | 2 => ty = .boolean
  | 3 => (∃ C, ty = .object C) ∨ ∃ t, ty = .array t
  | _ => False
def zi_ck1 (a : Nat) (q : vw_C) : Prop := (∀ w ∈ u_ws q.1 q.2.1 q.2.2, w ∈ zi_tb) ∧ ∃ ty : Nat → FieldType, (∀ k, k < q.2.2 → parseFieldDescriptor (q.2.1 k).2.2.1 = some (ty k)) ∧ (∀ a, a < q.2.2 → ∀ b, b < q.2.2 → a ≠ b → (q.2.1 a).2.1 ≠ (q.2.1 b).2.1) ∧ (∀ k, k < q.2.2 → zi_tk (zi_ft a k) (ty k)) ∧ ∀ k, k < q.2.2 → (q.2.1 k).1 = q.1
theorem zi_lt_cases {P : Nat → Prop} : ∀ {n : Nat}, (∀ k, k < n → P k) → P n → ∀ k, k < n + 1 → P k := fun h1 h2 k hk => by
  rcases Nat.lt_succ_iff_lt_or_eq.mp hk with h | h
  · exact h1 k h
  · exact h ▸ h2
theorem zi_lt0 {P : Nat → Prop} : ∀ k, k < 0 → P k := fun k h => absurd h (Nat.not_lt_zero k)
theorem zi_clX0 : zi_ck1 0 (RX0, TX0, 4) := ⟨zi_inX0, tyX0, tyX0_ok, nmX0, (zi_lt_cases (zi_lt_cases (zi_lt_cases (zi_lt_cases zi_lt0 rfl) (Or.inr ⟨_, rfl⟩)) (Or.inr ⟨_, rfl⟩)) (Or.inr ⟨_, rfl⟩)), (zi_lt_cases (zi_lt_cases (zi_lt_cases (zi_lt_cases zi_lt0 rfl) rfl) rfl) rfl)⟩
theorem zi_clX1 : zi_ck1 1 (RX1, TX1, 4) := ⟨zi_inX1, tyX1, tyX1_ok, nmX1, (zi_lt_cases (zi_lt_cases (zi_lt_cases (zi_lt_cases zi_lt0 (Or.inl ⟨_, rfl⟩)) (Or.inl ⟨_, rfl⟩)) rfl) rfl), (zi_lt_cases (zi_lt_cases (zi_lt_cases (zi_lt_cases zi_lt0 rfl) rfl) rfl) rfl)⟩
theorem zi_clX2 : zi_ck1 2 (RX2, TX2, 3) := ⟨zi_inX2, tyX2, tyX2_ok, nmX2, (zi_lt_cases (zi_lt_cases (zi_lt_cases zi_lt0 (Or.inr ⟨_, rfl⟩)) rfl) rfl), (zi_lt_cases (zi_lt_cases (zi_lt_cases zi_lt0 rfl) rfl) rfl)⟩
theorem zi_clX3 : zi_ck1 3 (RX3, TX3, 3) := ⟨zi_inX3, tyX3, tyX3_ok, nmX3, (zi_lt_cases (zi_lt_cases (zi_lt_cases zi_lt0 (Or.inl ⟨_, rfl⟩)) (Or.inl ⟨_, rfl⟩)) rfl), (zi_lt_cases (zi_lt_cases (zi_lt_cases zi_lt0 rfl) rfl) rfl)⟩
theorem zi_clX4 : zi_ck1 4 (RX4, TX4, 11) := ⟨zi_inX4, tyX4, tyX4_ok, nmX4, (zi_lt_cases (zi_lt_cases (zi_lt_cases (zi_lt_cases (zi_lt_cases (zi_lt_cases (zi_lt_cases (zi_lt_cases (zi_lt_cases (zi_lt_cases (zi_lt_cases zi_lt0 rfl) rfl) rfl) (Or.inr ⟨_, rfl⟩)) (Or.inr ⟨_, rfl⟩)) (Or.inr ⟨_, rfl⟩)) (Or.inr ⟨_, rfl⟩)) (Or.inr ⟨_, rfl⟩)) (Or.inr ⟨_, rfl⟩)) (Or.inr ⟨_, rfl⟩)) (Or.inr ⟨_, rfl⟩)), (zi_lt_cases (zi_lt_cases (zi_lt_cases (zi_lt_cases (zi_lt_cases (zi_lt_cases (zi_lt_cases (zi_lt_cases (zi_lt_cases (zi_lt_cases (zi_lt_cases zi_lt0 rfl) rfl) rfl) rfl) rfl) rfl) rfl) rfl) rfl) rfl) rfl)⟩
theorem zi_clX5 : zi_ck1 5 (RX5, TX5, 3) := ⟨zi_inX5, tyX5, tyX5_ok, nmX5, (zi_lt_cases (zi_lt_cases (zi_lt_cases zi_lt0 rfl) (Or.inr ⟨_, rfl⟩)) (Or.inr ⟨_, rfl⟩)), (zi_lt_cases (zi_lt_cases (zi_lt_cases zi_lt0 rfl) rfl) rfl)⟩
theorem zi_clX7 : zi_ck1 6 (RX7, TX7, 2) := ⟨zi_inX7, tyX7, tyX7_ok, nmX7, (zi_lt_cases (zi_lt_cases zi_lt0 (Or.inr ⟨_, rfl⟩)) (Or.inl ⟨_, rfl⟩)), (zi_lt_cases (zi_lt_cases zi_lt0 rfl) rfl)⟩
theorem zi_clX8 : zi_ck1 7 (RX8, TX8, 4) := ⟨zi_inX8, tyX8, tyX8_ok, nmX8, (zi_lt_cases (zi_lt_cases (zi_lt_cases (zi_lt_cases zi_lt0 rfl) rfl) rfl) rfl), (zi_lt_cases (zi_lt_cases (zi_lt_cases (zi_lt_cases zi_lt0 rfl) rfl) rfl) rfl)⟩
theorem zi_clX9 : zi_ck1 8 (RX9, TX9, 4) := ⟨zi_inX9, tyX9, tyX9_ok, nmX9, (zi_lt_cases (zi_lt_cases (zi_lt_cases (zi_lt_cases zi_lt0 rfl) rfl) rfl) (Or.inr ⟨_, rfl⟩)), (zi_lt_cases (zi_lt_cases (zi_lt_cases (zi_lt_cases zi_lt0 rfl) rfl) rfl) rfl)⟩
theorem zi_clX10 : zi_ck1 9 (RX10, TX10, 6) := ⟨zi_inX10, tyX10, tyX10_ok, nmX10, (zi_lt_cases (zi_lt_cases (zi_lt_cases (zi_lt_cases (zi_lt_cases (zi_lt_cases zi_lt0 (Or.inr ⟨_, rfl⟩)) (Or.inr ⟨_, rfl⟩)) rfl) rfl) rfl) rfl), (zi_lt_cases (zi_lt_cases (zi_lt_cases (zi_lt_cases (zi_lt_cases (zi_lt_cases zi_lt0 rfl) rfl) rfl) rfl) rfl) rfl)⟩
theorem zi_clX11 : zi_ck1 10 (RX11, TX11, 10) := ⟨zi_inX11, tyX11, tyX11_ok, nmX11, (zi_lt_cases (zi_lt_cases (zi_lt_cases (zi_lt_cases (zi_lt_cases (zi_lt_cases (zi_lt_cases (zi_lt_cases (zi_lt_cases (zi_lt_cases zi_lt0 (Or.inl ⟨_, rfl⟩)) (Or.inl ⟨_, rfl⟩)) (Or.inl ⟨_, rfl⟩)) (Or.inl ⟨_, rfl⟩)) (Or.inr ⟨_, rfl⟩)) (Or.inr ⟨_, rfl⟩)) (Or.inl ⟨_, rfl⟩)) (Or.inl ⟨_, rfl⟩)) rfl) rfl), (zi_lt_cases (zi_lt_cases (zi_lt_cases (zi_lt_cases (zi_lt_cases (zi_lt_cases (zi_lt_cases (zi_lt_cases (zi_lt_cases (zi_lt_cases zi_lt0 rfl) rfl) rfl) rfl) rfl) rfl) rfl) rfl) rfl) rfl)⟩
theorem zi_clX12 : zi_ck1 11 (RX12, TX12, 29) := ⟨zi_inX12, tyX12, tyX12_ok, nmX12, (zi_lt_cases (zi_lt_cases (zi_lt_cases (zi_lt_cases (zi_lt_cases (zi_lt_cases (zi_lt_cases (zi_lt_cases (zi_lt_cases (zi_lt_cases (zi_lt_cases (zi_lt_cases (zi_lt_cases (zi_lt_cases (zi_lt_cases (zi_lt_cases (zi_lt_cases (zi_lt_cases (zi_lt_cases (zi_lt_cases (zi_lt_cases (zi_lt_cases (zi_lt_cases (zi_lt_cases (zi_lt_cases (zi_lt_cases (zi_lt_cases (zi_lt_cases (zi_lt_cases zi_lt0 (Or.inr ⟨_, rfl⟩)) (Or.inr ⟨_, rfl⟩)) (Or.inr ⟨_, rfl⟩)) (Or.inr ⟨_, rfl⟩)) rfl) rfl) rfl) rfl) rfl) rfl) rfl) (Or.inr ⟨_, rfl⟩)) rfl) rfl) (Or.inr ⟨_, rfl⟩)) rfl) rfl) (Or.inr ⟨_, rfl⟩)) (Or.inr ⟨_, rfl⟩)) (Or.inr ⟨_, rfl⟩)) (Or.inr ⟨_, rfl⟩)) (Or.inr ⟨_, rfl⟩)) rfl) rfl) (Or.inr ⟨_, rfl⟩)) (Or.inr ⟨_, rfl⟩)) (Or.inr ⟨_, rfl⟩)) (Or.inr ⟨_, rfl⟩)) (Or.inr ⟨_, rfl⟩)), (zi_lt_cases (zi_lt_cases (zi_lt_cases (zi_lt_cases (zi_lt_cases (zi_lt_cases (zi_lt_cases (zi_lt_cases (zi_lt_cases (zi_lt_cases (zi_lt_cases (zi_lt_cases (zi_lt_cases (zi_lt_cases (zi_lt_cases (zi_lt_cases (zi_lt_cases (zi_lt_cases (zi_lt_cases (zi_lt_cases (zi_lt_cases (zi_lt_cases (zi_lt_cases (zi_lt_cases (zi_lt_cases (zi_lt_cases (zi_lt_cases (zi_lt_cases (zi_lt_cases zi_lt0 rfl) rfl) rfl) rfl) rfl) rfl) rfl) rfl) rfl) rfl) rfl) rfl) rfl) rfl) rfl) rfl) rfl) rfl) rfl) rfl) rfl) rfl) rfl) rfl) rfl) rfl) rfl) rfl) rfl)⟩
theorem zi_cls {a : Nat} {q : vw_C} (h : vwCl[a]? = some q) : zi_ck1 a q := by
  match a, h with
  | 0, h => cases h; exact zi_clX0
  | 1, h => cases h; exact zi_clX1
  | 2, h => cases h; exact zi_clX2
  | 3, h => cases h; exact zi_clX3
  | 4, h => cases h; exact zi_clX4
  | 5, h => cases h; exact zi_clX5
  | 6, h => cases h; exact zi_clX7
  | 7, h => cases h; exact zi_clX8
  | 8, h => cases h; exact zi_clX9
  | 9, h => cases h; exact zi_clX10
  | 10, h => cases h; exact zi_clX11
  | 11, h => cases h; exact zi_clX12
  | a + 12, h => simp [vwCl] at h
end
section
/-! locals -/
def zi_lr (ls : zL) (nL : Nat) (L : Array Slot) : Prop := ls.length = nL ∧ L.size = nL ∧ lv_wf L ∧ ∀ i v, zi_get ls i = some v → L[i]? = some (.val (zi_v v)) ∧ zi_in v
def zi_ll (ls : zL) : List (Nat × Value) := (List.range ls.length).filterMap fun i => (zi_get ls i).map fun v => (i, zi_v v)
theorem zi_get_lt : ∀ {ls : zL} {i : Nat} {v : zV}, zi_get ls i = some v → i < ls.length
  | [], _, _, h => by cases h
  | _ :: _, 0, _, _ => by simp
  | _ :: l, i + 1, _, h => by
    have := zi_get_lt (ls := l) (i := i) h
    simp; omega
theorem zi_ll_mem {ls : zL} {q : Nat × Value} : q ∈ zi_ll ls ↔ ∃ v, zi_get ls q.1 = some v ∧ q.2 = zi_v v := by
  unfold zi_ll
  rw [List.mem_filterMap]
  constructor
  · rintro ⟨i, -, h⟩
    cases hv : zi_get ls i with
    | none => rw [hv] at h; cases h
    | some v =>
      rw [hv] at h
      cases h
      exact ⟨v, hv, rfl⟩
  · rintro ⟨v, h1, h2⟩
    refine ⟨q.1, List.mem_range.mpr (zi_get_lt h1), ?_⟩
    rw [h1]
    show some (q.1, zi_v v) = some q
    rw [← h2]
theorem zi_lr_has {ls : zL} {nL : Nat} {L : Array Slot} (h : zi_lr ls nL L) : lv_has L nL (zi_ll ls) := by
  refine ⟨h.2.1, h.2.2.1, fun q hq => ?_⟩
  obtain ⟨v, h1, h2⟩ := zi_ll_mem.mp hq
  rw [h2]
  exact (h.2.2.2 q.1 v h1).1
theorem zi_set_spec : ∀ {ls ls' : zL} {i : Nat} {v : zV}, zi_set ls i v = some ls' → ls'.length = ls.length ∧ i < ls.length ∧ zi_get ls' i = some v ∧ ∀ j u, j ≠ i → zi_get ls' j = some u → zi_get ls j = some u ∧ ¬(j + 1 = i ∧ ∃ x, u = .inr (.inl x))
  | [], _, _, _, h => by cases h
  | w :: l, ls', 0, v, h => by
    cases h
    refine ⟨rfl, by simp, rfl, fun j u hj hu => ?_⟩
    cases j with
    | zero => exact absurd rfl hj
    | succ j => exact ⟨hu, fun q => by omega⟩
  | none :: l, ls', i + 1, v, h => by
    cases h1 : zi_set l i v with
    | none => simp [zi_set, h1] at h
    | some l' =>
      simp [zi_set, h1] at h
      subst h
      obtain ⟨a1, a2, a3, a4⟩ := zi_set_spec h1
      refine ⟨by simp [a1], by simp; omega, a3, fun j u hj hu => ?_⟩
      cases j with
      | zero => cases hu
      | succ j =>
        obtain ⟨b1, b2⟩ := a4 j u (by omega) hu
        exact ⟨b1, fun q => b2 ⟨by omega, q.2⟩⟩
  | some (.inl x) :: l, ls', i + 1, v, h => by
    cases h1 : zi_set l i v with
    | none => simp [zi_set, h1] at h
    | some l' =>
      simp [zi_set, h1] at h
      subst h
      obtain ⟨a1, a2, a3, a4⟩ := zi_set_spec h1
      refine ⟨by simp [a1], by simp; omega, a3, fun j u hj hu => ?_⟩
      cases j with
      | zero => cases hu; exact ⟨rfl, fun q => by obtain ⟨-, x, q⟩ := q; cases q⟩
      | succ j =>
        obtain ⟨b1, b2⟩ := a4 j u (by omega) hu
        exact ⟨b1, fun q => b2 ⟨by omega, q.2⟩⟩
  | some (.inr (.inr x)) :: l, ls', i + 1, v, h => by
    cases h1 : zi_set l i v with
    | none => simp [zi_set, h1] at h
    | some l' =>
      simp [zi_set, h1] at h
      subst h
      obtain ⟨a1, a2, a3, a4⟩ := zi_set_spec h1
      refine ⟨by simp [a1], by simp; omega, a3, fun j u hj hu => ?_⟩
      cases j with
      | zero => cases hu; exact ⟨rfl, fun q => by obtain ⟨-, x, q⟩ := q; cases q⟩
      | succ j =>
        obtain ⟨b1, b2⟩ := a4 j u (by omega) hu
        exact ⟨b1, fun q => b2 ⟨by omega, q.2⟩⟩
  | some (.inr (.inl x)) :: l, ls', 0 + 1, v, h => by cases h
  | some (.inr (.inl x)) :: l, ls', (i + 1) + 1, v, h => by
    cases h1 : zi_set l (i + 1) v with
    | none => simp [zi_set, h1] at h
    | some l' =>
      simp [zi_set, h1] at h
      subst h
      obtain ⟨a1, a2, a3, a4⟩ := zi_set_spec h1
      refine ⟨by simp [a1], by simp; omega, a3, fun j u hj hu => ?_⟩
      cases j with
      | zero => cases hu; exact ⟨rfl, fun q => by omega⟩
      | succ j =>
        obtain ⟨b1, b2⟩ := a4 j u (by omega) hu
        exact ⟨b1, fun q => b2 ⟨by omega, q.2⟩⟩
theorem zi_v_cat {v : zV} (h : (zi_v v).category = 2) : ∃ x, v = .inr (.inl x) := by
  match v with
  | .inl x => cases h
  | .inr (.inl x) => exact ⟨x, rfl⟩
  | .inr (.inr x) =>
    exfalso
    change (va_rf (zi_ro x)).category = 2 at h
    cases hr : zi_ro x with
    | none => rw [hr] at h; cases h
    | some y => rw [hr] at h; cases h
theorem zi_v_cat1 {v : zV} (h : zi_c1 v = true) : (zi_v v).category = 1 := by
  match v with
  | .inl x => rfl
  | .inr (.inl x) => cases h
  | .inr (.inr x) =>
    show (va_rf (zi_ro x)).category = 1
    unfold va_rf
    split <;> rfl
theorem zi_lr_set1 {ls ls' : zL} {nL i : Nat} {v : zV} {L L' : Array Slot} (h : zi_lr ls nL L) (hs : zi_set ls i v = some ls') (hv : zi_in v) (hL : lv_has L' nL ((i, zi_v v) :: (zi_ll ls).filter (fun q => !(q.1 == i) && !(q.1 + 1 == i && q.2.category == 2)))) : zi_lr ls' nL L' := by
  obtain ⟨a1, a2, a3, a4⟩ := zi_set_spec hs
  refine ⟨a1.trans h.1, hL.1, hL.2.1, fun j u hu => ?_⟩
  by_cases hj : j = i
  · subst hj
    rw [a3] at hu
    cases hu
    exact ⟨hL.2.2 _ List.mem_cons_self, hv⟩
  · obtain ⟨b1, b2⟩ := a4 j u hj hu
    refine ⟨hL.2.2 (j, zi_v u) (List.mem_cons_of_mem _ (List.mem_filter.mpr ⟨zi_ll_mem.mpr ⟨u, b1, rfl⟩, ?_⟩)), (h.2.2.2 j u b1).2⟩
    have h1 : (j == i) = false := by simpa using hj
    show (!(j == i) && !(j + 1 == i && (zi_v u).category == 2)) = true
    rw [h1]
    by_cases h2 : j + 1 = i
    · have h3 : ¬ (zi_v u).category = 2 := fun q => b2 ⟨h2, zi_v_cat q⟩
      simp [h3]
    · simp [h2]
theorem zi_mask_get : ∀ {m : List Bool} {ls : zL} {i : Nat} {v : zV}, zi_get (zi_mask m ls) i = some v → zi_get ls i = some v ∧ m[i]? = some true
  | [], _, _, _, h => by simp [zi_mask] at h; cases h
  | _ :: _, [], _, _, h => by simp [zi_mask] at h; cases h
  | true :: m, w :: l, 0, v, h => ⟨h, rfl⟩
  | false :: m, w :: l, 0, v, h => by cases h
  | b :: m, w :: l, i + 1, v, h => zi_mask_get (m := m) (ls := l) h
theorem zi_mask_len : ∀ {m : List Bool} {ls : zL}, m.length = ls.length → (zi_mask m ls).length = ls.length
  | [], [], _ => rfl
  | [], _ :: _, h => by cases h
  | _ :: _, [], h => by cases h
  | b :: m, w :: l, h => by
    simp only [zi_mask, List.length_cons] at h ⊢
    rw [zi_mask_len (by omega)]
theorem zi_lr_mask {ls : zL} {nL : Nat} {L : Array Slot} {m : List Bool} (h : zi_lr ls nL L) (hm : m.length = ls.length) : zi_lr (zi_mask m ls) nL L :=
  ⟨(zi_mask_len hm).trans h.1, h.2.1, h.2.2.1, fun i v hv => h.2.2.2 i v (zi_mask_get hv).1⟩
theorem zi_lr_set2 {ls l1 l2 : zL} {nL i : Nat} {x : Int} {L L' : Array Slot} (h : zi_lr ls nL L) (h1 : zi_set ls (i + 1) (.inl 0) = some l1) (h2 : zi_set l1 i (.inr (.inl x)) = some l2) (hv : zi_in (.inr (.inl x))) (hL : lv_has L' nL ((i, Value.long (Int64.ofInt x)) :: (zi_ll ls).filter (fun q => !(q.1 == i) && (!(q.1 == i + 1) && !(q.1 + 1 == i && q.2.category == 2))))) : zi_lr (zi_mask ((List.range l2.length).map fun k => !(Nat.beq k (i + 1))) l2) nL L' := by
  obtain ⟨a1, a2, a3, a4⟩ := zi_set_spec h1
  obtain ⟨c1, c2, c3, c4⟩ := zi_set_spec h2
  refine ⟨(zi_mask_len (by simp)).trans (c1.trans (a1.trans h.1)), hL.1, hL.2.1, fun j u hu => ?_⟩
  obtain ⟨e1, e2⟩ := zi_mask_get hu
  have hj1 : j ≠ i + 1 := by
    intro q
    subst q
    simp at e2
    obtain ⟨z, z1, z2⟩ := e2
    obtain ⟨z0, z3⟩ := List.getElem?_eq_some_iff.mp z1
    simp at z3
    rw [← z3] at z2
    simp at z2
  by_cases hj : j = i
  · subst hj
    rw [c3] at e1
    cases e1
    exact ⟨hL.2.2 _ List.mem_cons_self, hv⟩
  · obtain ⟨b1, b2⟩ := c4 j u hj e1
    obtain ⟨d1, d2⟩ := a4 j u hj1 b1
    refine ⟨hL.2.2 (j, zi_v u) (List.mem_cons_of_mem _ (List.mem_filter.mpr ⟨zi_ll_mem.mpr ⟨u, d1, rfl⟩, ?_⟩)), (h.2.2.2 j u d1).2⟩
    have g1 : (j == i) = false := by simpa using hj
    have g2 : (j == i + 1) = false := by simpa using hj1
    show (!(j == i) && (!(j == i + 1) && !(j + 1 == i && (zi_v u).category == 2))) = true
    rw [g1, g2]
    by_cases h2 : j + 1 = i
    · have h3 : ¬ (zi_v u).category = 2 := fun q => b2 ⟨h2, zi_v_cat q⟩
      simp [h3]
    · simp [h2]
/-! the memory in the heap -/
def zi_ak (k : Nat) : Option FieldType := match k with
  | 12 => some .int
  | 13 => some .boolean
  | 14 => some (.object "FoldedRows$Frame")
  | 15 => some (.object "FoldedRows$Image")
  | 16 => some (.object "FoldedRows$LaidLine")
  | 17 => some (.object "FoldedRows$Sheet")
  | _ => none
def zi_et (k : Nat) : Nat := match k with
  | 12 => 1
  | 13 => 1
  | 18 => 1
  | _ => 3
def zi_ao (s : State) (D : va_G) (base : Nat) (σ : zM) (H : Heap) (a : Nat) (x : Int) : Prop :=
  ∀ q, vwCl[(σ.1 x).1]? = some q → base ≤ a ∧ t_OB a (D.1 (σ.1 x).1) q.2.2 (D.2 (σ.1 x).1) H (fun i => zi_v (zi_mkv (zi_ft (σ.1 x).1 i) (zi_rd σ (zi_ft (σ.1 x).1 i) x i))) ∧ ∀ i, i < q.2.2 → zi_in (zi_mkv (zi_ft (σ.1 x).1 i) (zi_rd σ (zi_ft (σ.1 x).1 i) x i))
def zi_aa (s : State) (base : Nat) (σ : zM) (H : Heap) (a : Nat) (x : Int) : Prop :=
  ∀ ty, zi_ak (σ.1 x).1 = some ty → base ≤ a ∧ zi_ir (σ.1 x).2 ∧ 0 ≤ (σ.1 x).2 ∧ (∃ cA, ArrOfT s cA ty ∧ va_RA s cA ty ∧ H[a]? = some (arrV cA (σ.1 x).2.toNat (fun j => zi_v (zi_mkv (zi_et (σ.1 x).1) (zi_rd σ (zi_et (σ.1 x).1) x j))))) ∧ ∀ j : Nat, j < (σ.1 x).2.toNat → zi_in (zi_mkv (zi_et (σ.1 x).1) (zi_rd σ (zi_et (σ.1 x).1) x j))
def zi_as (s : State) (σ : zM) (H : Heap) (a : Nat) (x : Int) : Prop :=
  (σ.1 x).1 = 18 → zi_ir (σ.1 x).2 ∧ 0 ≤ (σ.1 x).2 ∧ (∃ cell : Cell, H[a]? = some cell ∧ s.isArrayOf cell .int ∧ cell.vm ≠ .unknown ∧ cell.slots.size = (σ.1 x).2.toNat ∧ ∀ j : Nat, j < (σ.1 x).2.toNat → cell.slots[j]? = some (.int (Int32.ofInt (σ.2.1 x j)))) ∧ ∀ j : Nat, j < (σ.1 x).2.toNat → zi_ir (σ.2.1 x j)
def zi_W (s : State) (D : va_G) (base : Nat) (σ : zM) (H : Heap) : Prop :=
  (H.size : Int) + 1 = σ.2.2.2.1 ∧ base ≤ H.size ∧ (∀ x : Int, (σ.1 x).1 ≠ 99 → 1 ≤ x ∧ x < σ.2.2.2.1) ∧ ∀ a : Nat, zi_ao s D base σ H a ((a : Int) + 1) ∧ zi_aa s base σ H a ((a : Int) + 1) ∧ zi_as s σ H a ((a : Int) + 1)
theorem zi_W.moved {u U : State} {D : va_G} {base : Nat} {σ : zM} {H : Heap} (hvm : u.vm.Alike U.vm) (h : zi_W u D base σ H) : zi_W U D base σ H := by
  refine ⟨h.1, h.2.1, h.2.2.1, fun a => ?_⟩
  obtain ⟨h1, h2, h3⟩ := h.2.2.2 a
  refine ⟨h1, fun ty hty => ?_, fun hk => ?_⟩
  · obtain ⟨b1, b2, b3, ⟨cA, c1, c2, c3⟩, b4⟩ := h2 ty hty
    exact ⟨b1, b2, b3, ⟨cA, arrOfT_moved hvm c1, c2.moved hvm, c3⟩, b4⟩
  · obtain ⟨b1, b2, ⟨cell, c1, c2, c3⟩, b4⟩ := h3 hk
    exact ⟨b1, b2, ⟨cell, c1, State.isArrayOf_alike hvm c2, c3⟩, b4⟩
theorem zi_kind_pos {s : State} {D : va_G} {base : Nat} {σ : zM} {H : Heap} (h : zi_W s D base σ H) {x : Int} {k : Nat} (hk : (σ.1 x).1 = k) (h9 : k ≠ 99) : ∃ a : Nat, x = (a : Int) + 1 ∧ zi_ro x = some a := by
  have := (h.2.2.1 x (by rw [hk]; exact h9)).1
  refine ⟨x.toNat - 1, by omega, ?_⟩
  unfold zi_ro
  rw [if_neg (by omega)]
theorem zi_vr {x : Int} {a : Nat} (h : zi_ro x = some a) : zi_v (.inr (.inr x)) = .ref a := by
  show va_rf (zi_ro x) = _
  rw [h]; rfl
theorem zi_up_ne {M : Int → Int → Int} {a k v a' k' : Int} (h : a' ≠ a) : zi_up M a k v a' k' = M a' k' := by
  unfold zi_up
  rw [if_neg (fun q => h q.1)]
theorem zi_up_nk {M : Int → Int → Int} {a k v a' k' : Int} (h : k' ≠ k) : zi_up M a k v a' k' = M a' k' := by
  unfold zi_up
  rw [if_neg (fun q => h q.2)]
theorem zi_up_eq {M : Int → Int → Int} {a k v : Int} : zi_up M a k v a k = v := by
  unfold zi_up
  rw [if_pos ⟨rfl, rfl⟩]
/-- cells elsewhere stay -/
theorem zi_else {s : State} {D : va_G} {base : Nat} {σ σ' : zM} {H H1 : Heap} {a : Nat} {x : Int} (hs : σ'.1 x = σ.1 x) (hm : ∀ j, σ'.2.1 x j = σ.2.1 x j) (hr : ∀ j, σ'.2.2.1 x j = σ.2.2.1 x j) (hH : H1[a]? = H[a]?) (h : zi_ao s D base σ H a x ∧ zi_aa s base σ H a x ∧ zi_as s σ H a x) : zi_ao s D base σ' H1 a x ∧ zi_aa s base σ' H1 a x ∧ zi_as s σ' H1 a x := by
  obtain ⟨h1, h2, h3⟩ := h
  have hd : ∀ t j, zi_rd σ' t x j = zi_rd σ t x j := by
    intro t j
    unfold zi_rd
    split
    · exact hr j
    · exact hm j
  unfold zi_ao zi_aa zi_as
  simp only [hs, hm, hd, hH]
  refine ⟨fun q hq => ?_, h2, h3⟩
  obtain ⟨a1, a2, a3⟩ := h1 q hq
  exact ⟨a1, a2.kept hH, a3⟩
/-- σ' is σ but at x -/
def zi_only (σ σ' : zM) (x : Int) : Prop := σ'.1 = σ.1 ∧ σ'.2.2.2 = σ.2.2.2 ∧ ∀ y j, y ≠ x → σ'.2.1 y j = σ.2.1 y j ∧ σ'.2.2.1 y j = σ.2.2.1 y j
theorem zi_only_wr {σ : zM} {x k v : Int} : zi_only σ (zi_wr σ x k v) x := ⟨rfl, rfl, fun y j hy => ⟨zi_up_ne hy, rfl⟩⟩
theorem zi_only_wq {σ : zM} {x k v : Int} : zi_only σ (zi_wq σ x k v) x := ⟨rfl, rfl, fun y j hy => ⟨rfl, zi_up_ne hy⟩⟩
/-- what is written by its kind -/
def zi_wt (σ : zM) (t : Nat) (x k v : Int) : zM := match t with
  | 3 => zi_wq σ x k v
  | _ => zi_wr σ x k v
theorem zi_only_wt {σ : zM} {t : Nat} {x k v : Int} : zi_only σ (zi_wt σ t x k v) x := by
  unfold zi_wt
  split
  · exact zi_only_wq
  · exact zi_only_wr
theorem zi_rd_wt {σ : zM} {t : Nat} {x k v : Int} : zi_rd (zi_wt σ t x k v) t x k = v := by
  by_cases h : t = 3
  · subst h
    exact zi_up_eq
  · unfold zi_wt zi_rd
    split
    · exact absurd rfl h
    · split
      · exact absurd rfl h
      · exact zi_up_eq
theorem zi_rd_wt_ne {σ : zM} {t t' : Nat} {x k v j : Int} (h : j ≠ k) : zi_rd (zi_wt σ t x k v) t' x j = zi_rd σ t' x j := by
  unfold zi_wt zi_rd
  split <;> split <;> first | exact zi_up_nk h | rfl
/-- a field is written -/
theorem zi_W_obj {s : State} {D : va_G} {base : Nat} {σ : zM} {H H1 : Heap} {a : Nat} {x : Int} (h : zi_W s D base σ H) (hx : x = (a : Int) + 1) {q : vw_C} (hq : vwCl[(σ.1 x).1]? = some q) {k : Nat} (hk : k < q.2.2) {v : Int} (hv : zi_in (zi_mkv (zi_ft (σ.1 x).1 k) v))
    (hO : t_OB a (D.1 (σ.1 x).1) q.2.2 (D.2 (σ.1 x).1) H1 (updV (fun i => zi_v (zi_mkv (zi_ft (σ.1 x).1 i) (zi_rd σ (zi_ft (σ.1 x).1 i) x i))) k (zi_v (zi_mkv (zi_ft (σ.1 x).1 k) v)))) (hz : H1.size = H.size) (ho : ∀ b, b ≠ a → H1[b]? = H[b]?) : zi_W s D base (zi_wt σ (zi_ft (σ.1 x).1 k) x k v) H1 := by
  obtain ⟨o1, o2, o3⟩ := zi_only_wt (σ := σ) (t := zi_ft (σ.1 x).1 k) (x := x) (k := k) (v := v)
  refine ⟨by rw [hz, o2]; exact h.1, by rw [hz]; exact h.2.1, by rw [o1, o2]; exact h.2.2.1, fun b => ?_⟩
  by_cases hb : b = a
  · subst hb
    rw [← hx]
    obtain ⟨h1, h2, h3⟩ := h.2.2.2 b
    rw [← hx] at h1
    have hlt : (σ.1 x).1 < 12 := by
      have := (List.getElem?_eq_some_iff.mp hq).1
      simpa [vwCl] using this
    refine ⟨fun q' hq' => ?_, fun ty hty => ?_, fun h18 => ?_⟩
    · rw [o1] at hq' ⊢
      have e : q' = q := Option.some.inj (hq'.symm.trans hq)
      subst e
      obtain ⟨a1, a2, a3⟩ := h1 q' hq
      refine ⟨a1, hO.to (fun j hj => ?_), fun j hj => ?_⟩
      · unfold updV
        by_cases hjk : j = k
        · subst hjk; rw [if_pos rfl, zi_rd_wt]
        · rw [if_neg hjk, zi_rd_wt_ne (by omega)]
      · by_cases hjk : j = k
        · subst hjk; rw [zi_rd_wt]; exact hv
        · rw [zi_rd_wt_ne (by omega)]; exact a3 j hj
    · exfalso
      rw [o1] at hty
      unfold zi_ak at hty
      split at hty <;> first | omega | cases hty
    · exfalso
      rw [o1] at h18
      omega
  · exact zi_else (σ := σ) (by rw [o1]) (fun j => (o3 _ j (by omega)).1) (fun j => (o3 _ j (by omega)).2) (ho b hb) (h.2.2.2 b)
/-- a cell of a row is written -/
theorem zi_W_arr {s : State} {D : va_G} {base : Nat} {σ σ' : zM} {H H1 : Heap} {a : Nat} {x : Int} (h : zi_W s D base σ H) (hx : x = (a : Int) + 1) {ty : FieldType} (hty : zi_ak (σ.1 x).1 = some ty) (hM : zi_only σ σ' x) (hv : ∀ j : Nat, j < (σ.1 x).2.toNat → zi_in (zi_mkv (zi_et (σ.1 x).1) (zi_rd σ' (zi_et (σ.1 x).1) x j)))
    (hO : ∀ cA, H[a]? = some (arrV cA (σ.1 x).2.toNat (fun j => zi_v (zi_mkv (zi_et (σ.1 x).1) (zi_rd σ (zi_et (σ.1 x).1) x j)))) → H1[a]? = some (arrV cA (σ.1 x).2.toNat (fun j => zi_v (zi_mkv (zi_et (σ.1 x).1) (zi_rd σ' (zi_et (σ.1 x).1) x j))))) (hz : H1.size = H.size) (ho : ∀ b, b ≠ a → H1[b]? = H[b]?) : zi_W s D base σ' H1 := by
  obtain ⟨o1, o2, o3⟩ := hM
  refine ⟨by rw [hz, o2]; exact h.1, by rw [hz]; exact h.2.1, by rw [o1, o2]; exact h.2.2.1, fun b => ?_⟩
  by_cases hb : b = a
  · subst hb
    rw [← hx]
    obtain ⟨h1, h2, h3⟩ := h.2.2.2 b
    rw [← hx] at h2
    have hk : 12 ≤ (σ.1 x).1 ∧ (σ.1 x).1 ≤ 17 := by
      unfold zi_ak at hty
      split at hty <;> first | omega | cases hty
    refine ⟨fun q' hq' => ?_, fun ty' hty' => ?_, fun h18 => ?_⟩
    · exfalso
      rw [o1] at hq'
      have := (List.getElem?_eq_some_iff.mp hq').1
      simp [vwCl] at this
      omega
    · rw [o1] at hty' ⊢
      have e : ty' = ty := Option.some.inj (hty'.symm.trans hty)
      subst e
      obtain ⟨b1, b2, b3, ⟨cA, c1, c2, c3⟩, b4⟩ := h2 ty' hty
      exact ⟨b1, b2, b3, ⟨cA, c1, c2, hO cA c3⟩, hv⟩
    · exfalso
      rw [o1] at h18
      omega
  · exact zi_else (σ := σ) (by rw [o1]) (fun j => (o3 _ j (by omega)).1) (fun j => (o3 _ j (by omega)).2) (ho b hb) (h.2.2.2 b)
/-- a new cell -/
theorem zi_W_new {s : State} {D : va_G} {base : Nat} {σ : zM} {H H1 : Heap} {k : Nat} {n : Int} {sl : Nat} (h : zi_W s D base σ H) (hk : k ≠ 18) (hz : H1.size = H.size + 1) (ho : ∀ b, b < H.size → H1[b]? = H[b]?)
    (hO : ∀ q, vwCl[k]? = some q → t_OB H.size (D.1 k) q.2.2 (D.2 k) H1 (fun i => zi_v (zi_mkv (zi_ft k i) 0)))
    (hA : ∀ ty, zi_ak k = some ty → zi_ir n ∧ 0 ≤ n ∧ ∃ cA, ArrOfT s cA ty ∧ va_RA s cA ty ∧ H1[H.size]? = some (arrV cA n.toNat (fun _ => zi_v (zi_mkv (zi_et k) 0)))) : zi_W s D base (zi_new σ k n sl) H1 := by
  have hin0 : ∀ t, zi_in (zi_mkv t 0) := by
    intro t
    unfold zi_mkv
    split
    · exact Int.le_refl 0
    · show (-9223372036854775808 : Int) ≤ 0 ∧ (0 : Int) < 9223372036854775808
      omega
    · exact zi_ir0
  have htop := h.1
  have e1 : (zi_new σ k n sl).2.2.2.1 = σ.2.2.2.1 + 1 := rfl
  refine ⟨by rw [hz, e1]; omega, by rw [hz]; exact Nat.le_succ_of_le h.2.1, fun x hx => ?_, fun b => ?_⟩
  · rw [e1]
    by_cases hxt : x = σ.2.2.2.1
    · subst hxt; omega
    · have e2 : (zi_new σ k n sl).1 x = σ.1 x := if_neg hxt
      rw [e2] at hx
      have := h.2.2.1 x hx
      omega
  · by_cases hb : (b : Int) + 1 = σ.2.2.2.1
    · have hbs : b = H.size := by omega
      subst hbs
      have e2 : (zi_new σ k n sl).1 ((H.size : Int) + 1) = (k, n) := if_pos hb
      have e3 : ∀ t j, zi_rd (zi_new σ k n sl) t ((H.size : Int) + 1) j = 0 := by
        intro t j
        unfold zi_rd
        split
        · exact if_pos hb
        · exact if_pos hb
      unfold zi_ao zi_aa zi_as
      simp only [e2, e3]
      refine ⟨fun q hq => ⟨h.2.1, hO q hq, fun i _ => hin0 _⟩, fun ty hty => ?_, fun h18 => absurd h18 hk⟩
      obtain ⟨a1, a2, a3⟩ := hA ty hty
      exact ⟨h.2.1, a1, a2, a3, fun j _ => hin0 _⟩
    · by_cases hlt : b < H.size
      · exact zi_else (σ := σ) (if_neg hb) (fun j => if_neg hb) (fun j => if_neg hb) (ho b hlt) (h.2.2.2 b)
      · have e2 : (zi_new σ k n sl).1 ((b : Int) + 1) = σ.1 ((b : Int) + 1) := if_neg hb
        have h9 : (σ.1 ((b : Int) + 1)).1 = 99 := by
          by_cases h9 : (σ.1 ((b : Int) + 1)).1 = 99
          · exact h9
          · have := h.2.2.1 _ h9; omega
        unfold zi_ao zi_aa zi_as
        simp only [e2, h9]
        refine ⟨fun q hq => by simp [vwCl] at hq, fun ty hty => by simp [zi_ak] at hty, fun h18 => by omega⟩
end
section
/-! instructions on the heap, out of the memory's picture -/
abbrev zi_rec : Type := MethodName × ByteArray × Option FieldType × Nat × zT
def zi_nt (c : Jvm.Cond) : Prop := c ∈ zi_tb
/-- what the words say of a place of a class's pool: (place, tag, a, b) -/
def zi_pm (recs : List zi_rec) (own : String) (e : Nat × Nat × Nat × Int) : Prop := match e.2.1 with
  | 0 => ∃ (q : vw_C) (k : Nat), vwCl[e.2.2.1]? = some q ∧ e.2.2.2 = (k : Int) ∧ k < q.2.2 ∧ Jvm.Cond.fieldLink own e.1 (q.2.1 k).1 (q.2.1 k).2.1 (q.2.1 k).2.2.1 ∈ zi_tb
  | 1 => ∃ (q : vw_C) (k : Nat) (host : String), vwCl[e.2.2.1]? = some q ∧ e.2.2.2 = (k : Int) ∧ k < q.2.2 ∧ Jvm.Cond.fieldLinkNest own e.1 (q.2.1 k).1 (q.2.1 k).2.1 (q.2.1 k).2.2.1 host ∈ lw_tbl
  | 2 => ∃ r : zi_rec, recs[e.2.2.1]? = some r ∧ Jvm.Cond.methodLink own e.1 r.1 ∈ zi_tb ∧ Jvm.Cond.static r.1 ∈ zi_tb
  | 3 => ∃ (r : zi_rec) (host : String), recs[e.2.2.1]? = some r ∧ Jvm.Cond.methodLinkNest own e.1 r.1 host ∈ lw_tbl ∧ Jvm.Cond.static r.1 ∈ zi_tb
  | 4 => ∃ (r : zi_rec) (q : vw_C), recs[e.2.2.1]? = some r ∧ vwCl[e.2.2.2.toNat]? = some q ∧ 0 ≤ e.2.2.2 ∧ r.1.cls = q.1 ∧ Jvm.Cond.methodLink own e.1 r.1 ∈ zi_tb ∧ Jvm.Cond.instanceMethod r.1 ∈ zi_tb ∧ Jvm.Cond.selects q.1 r.1 r.1 ∈ zi_tb
  | 5 => ∃ (r : zi_rec) (q : vw_C) (host : String), recs[e.2.2.1]? = some r ∧ vwCl[e.2.2.2.toNat]? = some q ∧ 0 ≤ e.2.2.2 ∧ r.1.cls = q.1 ∧ Jvm.Cond.methodLinkNest own e.1 r.1 host ∈ lw_tbl ∧ Jvm.Cond.instanceMethod r.1 ∈ zi_tb ∧ Jvm.Cond.selects q.1 r.1 r.1 ∈ zi_tb
  | 6 => ∃ r : zi_rec, recs[e.2.2.1]? = some r ∧ 0 ≤ e.2.2.2 ∧ e.2.2.2 < 12 ∧ r.1.name = "<init>" ∧ r.2.2.1 = none ∧ Jvm.Cond.methodLink own e.1 r.1 ∈ zi_tb ∧ Jvm.Cond.instanceMethod r.1 ∈ zi_tb
  | 7 => ∃ (r : zi_rec) (host : String), recs[e.2.2.1]? = some r ∧ 0 ≤ e.2.2.2 ∧ e.2.2.2 < 12 ∧ r.1.name = "<init>" ∧ r.2.2.1 = none ∧ Jvm.Cond.methodLinkNest own e.1 r.1 host ∈ lw_tbl ∧ Jvm.Cond.instanceMethod r.1 ∈ zi_tb
  | 8 => ∃ q : vw_C, vwCl[e.2.2.1]? = some q ∧ e.2.2.2 = (q.2.2 : Int) ∧ Jvm.Cond.classLink own e.1 q.1 ∈ zi_tb ∧ Jvm.Cond.instantiable q.1 q.2.2 ∈ zi_tb ∧ Jvm.Cond.initialized q.1 ∈ zi_tb
  | 9 => ∃ C : String, zi_ak e.2.2.1 = some (.object C) ∧ Jvm.Cond.classLink own e.1 C ∈ zi_tb ∧ Jvm.Cond.arrayOver (.object C) ∈ lw_tbl
  | 10 => Jvm.Cond.constant own e.1 (Int32.ofInt e.2.2.2) ∈ zi_tb ∧ zi_ir e.2.2.2
  | 11 => Jvm.Cond.constantLong own e.1 (Int64.ofInt e.2.2.2) ∈ zi_tb ∧ zi_in (.inr (.inl e.2.2.2))
  | 12 => 0 ≤ e.2.2.2 ∧ e.2.2.2 < 12 ∧ Jvm.Cond.methodLink own e.1 objectInit ∈ zi_tb ∧ Jvm.Cond.instanceMethod objectInit ∈ zi_tb ∧ Jvm.Cond.code objectInit ⟨#[0xb1]⟩ 1 none ∈ zi_tb
  | 13 => (e.2.2.1 = 1001 ∧ Jvm.Cond.methodLink own e.1 Lib.Math.max.name ∈ zi_tb ∧ Jvm.Cond.static Lib.Math.max.name ∈ zi_tb ∧ Jvm.Cond.initialized "java/lang/Math" ∈ zi_tb ∧ Jvm.Cond.code Lib.Math.max.name Lib.Math.max.code 2 (some .int) ∈ zi_tb) ∨
    (e.2.2.1 = 1002 ∧ Jvm.Cond.methodLink own e.1 Lib.Math.min.name ∈ zi_tb ∧ Jvm.Cond.static Lib.Math.min.name ∈ zi_tb ∧ Jvm.Cond.initialized "java/lang/Math" ∈ zi_tb ∧ Jvm.Cond.code Lib.Math.min.name Lib.Math.min.code 2 (some .int) ∈ zi_tb) ∨
    (e.2.2.1 = 1003 ∧ Jvm.Cond.methodLink own e.1 Lib.MathLoose.max_long.x ∈ zi_tb ∧ Jvm.Cond.static Lib.MathLoose.max_long.x ∈ zi_tb ∧ Jvm.Cond.initialized "java/lang/Math" ∈ zi_tb ∧ Jvm.Cond.code Lib.MathLoose.max_long.x Lib.MathLoose.max_long.code 4 (some .long) ∈ zi_tb) ∨
    (e.2.2.1 = 1004 ∧ Jvm.Cond.methodLink own e.1 Lib.MathLoose.min_long.x ∈ zi_tb ∧ Jvm.Cond.static Lib.MathLoose.min_long.x ∈ zi_tb ∧ Jvm.Cond.initialized "java/lang/Math" ∈ zi_tb ∧ Jvm.Cond.code Lib.MathLoose.min_long.x Lib.MathLoose.min_long.code 4 (some .long) ∈ zi_tb) ∨
    (e.2.2.1 = 1005 ∧ Jvm.Cond.methodLink own e.1 arraycopyName ∈ zi_tb ∧ Jvm.Cond.native arraycopyName ∈ zi_tb ∧ Jvm.Cond.static arraycopyName ∈ zi_tb ∧ Jvm.Cond.initialized "java/lang/System" ∈ zi_tb)
  | _ => False
/-- words that are not told but kept: nest links, rows over a class -/
def zi_isN : Jvm.Cond → Bool
  | .fieldLinkNest _ _ _ _ _ _ => true
  | .methodLinkNest _ _ _ _ => true
  | .arrayOver (.object _) => true
  | _ => false
def zi_nw (s : State) : Prop := ∀ w ∈ lw_tbl, zi_isN w = true → w.before #[] s = true
theorem zi_nw.moved {s U : State} (hW : s.WarmedH U.vm) (h : zi_nw s) : zi_nw U := by
  intro w hw hn
  have h1 := h w hw hn
  match w, hn with
  | .fieldLinkNest _ _ _ _ _ _, _ => exact va_Nw.warmF hW h1
  | .methodLinkNest _ _ _ _, _ => exact va_Nw.warmM hW h1
  | .arrayOver (.object C), _ => exact va_AO.moved hW.alike h1
def zi_cx (p : Program) (s : State) (m : MethodId) (args : Array Value) (meth : Method) (c : Code) (D : va_G) (cc : ByteArray) (nL : Nat) (own : String) (ini : Bool) : Prop :=
  p.tables.exec = Jvm.exec ∧ c.code = cc ∧ c.maxLocals = nL ∧ s.vm.findClass own = some m.cls ∧ (∀ w ∈ zi_tb, w.before args s = true) ∧ va_K D vwCl [] s ∧ zi_nw s ∧ (ini = true → meth.name = "<init>")
theorem zi_obj {s : State} {D : va_G} {base : Nat} {σ : zM} {H : Heap} (h : zi_W s D base σ H) {x : Int} {k : Nat} (hk : (σ.1 x).1 = k) {q : vw_C} (hq : vwCl[k]? = some q) : ∃ a : Nat, x = (a : Int) + 1 ∧ zi_ro x = some a ∧ base ≤ a ∧ t_OB a (D.1 k) q.2.2 (D.2 k) H (fun i => zi_v (zi_mkv (zi_ft k i) (zi_rd σ (zi_ft k i) x i))) ∧ ∀ i, i < q.2.2 → zi_in (zi_mkv (zi_ft k i) (zi_rd σ (zi_ft k i) x i)) := by
  have h9 : k ≠ 99 := by
    rintro rfl
    simp [vwCl] at hq
  obtain ⟨a, hx, hr⟩ := zi_kind_pos h hk h9
  obtain ⟨h1, -, -⟩ := h.2.2.2 a
  rw [← hx] at h1
  subst hk
  obtain ⟨b1, b2, b3⟩ := h1 q hq
  exact ⟨a, hx, hr, b1, b2, b3⟩
section ZH
variable {p : Program} {l : Launch} {e : Env} {R : Room} {s : State} {m : MethodId} {args : Array Value} {below : List Frame} {meth : Method} {c : Code} {H : Heap} {locs : List Loc} {cells slots : Nat} {Q : State → Prop} {D : va_G} {cc : ByteArray} {nL : Nat} {own : String} {ini : Bool} {base : Nat} {σ : zM} {recs : List zi_rec} {pc : Nat} {L : Array Slot} {rest : List Value}
theorem zi_getf (C : zi_cx p s m args meth c D cc nL own ini) (hW : zi_W s D base σ H) {x : Int} {a : Nat} {b : Int} {idx : Nat} (hp : zi_pm recs own (idx, 0, a, b) ∨ zi_pm recs own (idx, 1, a, b)) (hk : (σ.1 x).1 = a) (hd : decode cc pc = .ok (.getfield idx, 3))
    (kk : zi_in (zi_mkv (zi_ft a b.toNat) (zi_rd σ (zi_ft a b.toNat) x b)) → W p l e R s m args below meth c H locs cells slots Q (F0 m (pc + 3) L (zi_v (zi_mkv (zi_ft a b.toNat) (zi_rd σ (zi_ft a b.toNat) x b)) :: rest))) : W p l e R s m args below meth c H locs cells slots Q (F0 m pc L (zi_v (.inr (.inr x)) :: rest)) := by
  obtain ⟨hx, hb, -, hown, hts, hK, hnw, -⟩ := C
  rcases hp with ⟨q, k, hq, rfl, hkN, hw⟩ | ⟨q, k, host, hq, rfl, hkN, hw⟩
  all_goals
    obtain ⟨ad, ex, er, -, ⟨cell, q1, q2, q3, q4⟩, hin⟩ := zi_obj hW hk hq
    rw [zi_vr er]
    obtain ⟨hS, hfc, kC, hkC, hkind⟩ := hK.1 a _ hq
    obtain ⟨cf, kf, fi, f, hi, hsl⟩ := hS k hkN
    have hst := (u_facts hfc hkC (u_lays hts (zi_cls hq).1 hkN) hi).1
    have hv : cell.slots[f.slot]? = some (zi_v (zi_mkv (zi_ft a k) (zi_rd σ (zi_ft a k) x k))) := by rw [hsl]; exact q4 k hkN
  · exact W.getf hx hb hown (hts _ hw) hi hst q1 (by rw [q3]; exact fun h => by cases h) hv rfl rfl hd (kk (hin k hkN))
  · exact va_Wgetf hx hb hown (va_Nw.use rfl (hnw _ hw rfl)) hi hst q1 (by rw [q3]; exact fun h => by cases h) hv rfl rfl hd (kk (hin k hkN))
theorem zi_fit {t : Nat} {ty : FieldType} (ht : zi_tk t ty) {v : Int} (h2 : t = 2 → v = 0 ∨ v = 1) : narrow ty (zi_v (zi_mkv t v)) = zi_v (zi_mkv t v) ∧ fits ty (zi_v (zi_mkv t v)) = true := by
  match t, ht with
  | 1, h => cases h; exact ⟨rfl, rfl⟩
  | 2, h =>
    cases h
    rcases h2 rfl with rfl | rfl <;> exact ⟨by decide, by decide⟩
  | 3, h =>
    show narrow ty (va_rf (zi_ro v)) = va_rf (zi_ro v) ∧ fits ty (va_rf (zi_ro v)) = true
    rcases h with ⟨C, rfl⟩ | ⟨t, rfl⟩ <;> cases zi_ro v <;> exact ⟨rfl, rfl⟩
theorem zi_putf (C : zi_cx p s m args meth c D cc nL own ini) (hW : zi_W s D base σ H) (hlo : ∀ q ∈ locs, base ≤ q.base) {x v : Int} {a : Nat} {b : Int} {idx : Nat} (hp : zi_pm recs own (idx, 0, a, b) ∨ zi_pm recs own (idx, 1, a, b)) (hf : ∀ q, vwCl[a]? = some q → (q.2.1 b.toNat).2.2.2 = false ∨ (ini = true ∧ q.1 = own ∧ zi_pm recs own (idx, 0, a, b))) (hk : (σ.1 x).1 = a) (h2 : zi_ft a b.toNat = 2 → v = 0 ∨ v = 1) (hv : zi_in (zi_mkv (zi_ft a b.toNat) v)) (hd : decode cc pc = .ok (.putfield idx, 3))
    (kk : ∀ (H1 : Heap) (locs1 : List Loc), zi_W s D base (zi_wt σ (zi_ft a b.toNat) x b v) H1 → (∀ q ∈ locs1, base ≤ q.base) → W p l e R s m args below meth c H1 locs1 cells slots Q (F0 m (pc + 3) L rest)) : W p l e R s m args below meth c H locs cells slots Q (F0 m pc L (zi_v (zi_mkv (zi_ft a b.toNat) v) :: zi_v (.inr (.inr x)) :: rest)) := by
  have C0 := C
  obtain ⟨hx, hb, -, hown, hts, hK, hnw, hini⟩ := C
  have key : ∀ (q : vw_C) (k : Nat), vwCl[a]? = some q → k < q.2.2 → (b = (k : Int)) → (q.2.1 k).2.2.2 = true → ∃ w, w = Jvm.Cond.fieldLink own idx (q.2.1 k).1 (q.2.1 k).2.1 (q.2.1 k).2.2.1 ∧ w ∈ zi_tb ∧ ini = true ∧ q.1 = own := by
    intro q k hq hkN hbk hfin
    subst hbk
    rcases hf q hq with h | ⟨h1, h9, q', k', hq', hk', -, hw⟩
    · exact absurd (hfin.symm.trans h) (by decide)
    · have e1 : q' = q := Option.some.inj (hq'.symm.trans hq)
      subst e1
      have e2 : k' = k := by
        change (k : Int) = (k' : Int) at hk'
        omega
      subst e2
      exact ⟨_, rfl, hw, h1, h9⟩
  rcases hp with ⟨q, k, hq, hbk, hkN, hw⟩ | ⟨q, k, host, hq, hbk, hkN, hw⟩
  all_goals
    change b = (k : Int) at hbk
    subst hbk
    obtain ⟨ad, ex, er, hbase, ⟨cell, q1, q2, q3, q4⟩, hin⟩ := zi_obj hW hk hq
    rw [zi_vr er]
    obtain ⟨hin1, ty, hty, hnm, htk, hdecl⟩ := zi_cls hq
    have hap := va_apart (own := own) hts hin1 ty hty hnm hK hq
    obtain ⟨hS, hfc, kC, hkC, hkind⟩ := hK.1 a _ hq
    obtain ⟨cf, kf, fi, f, hi, hsl⟩ := hS k hkN
    have hst := (u_facts hfc hkC (u_lays hts hin1 hkN) hi).1
    obtain ⟨hn, hfit⟩ := zi_fit (htk k hkN) h2
    have hlt : f.slot < cell.slots.size := by rw [hsl]; exact k2_hasslot (q4 k hkN)
    have hend : ∀ H' : Heap, H'[ad]? = some (cell.setSlot f.slot (zi_v (zi_mkv (zi_ft a k) v))) → H'.size = H.size → (∀ q, q ≠ ad → H'[q]? = H[q]?) → W p l e R s m args below meth c H' (locs ++ [⟨ad, f.slot⟩]) cells slots Q (F0 m (pc + 3) L rest) := by
      intro H' e1 e2 e3
      refine kk H' _ ?_ ?_
      · subst hk
        refine zi_W_obj hW ex hq hkN hv ⟨_, e1, q2, q3, ?_⟩ e2 e3
        rw [hsl]
        exact t_set q4 hap hkN _
      · intro z hz
        rcases List.mem_append.mp hz with h | h
        · exact hlo z h
        · rw [List.mem_singleton.mp h]; exact hbase
  · by_cases hfin : (q.2.1 k).2.2.2 = true
    · obtain ⟨w, rfl, hw2, h1, h2⟩ := key q k hq hkN rfl hfin
      have hlay := hts _ (hin1 _ (u_in_lay hkN))
      unfold u_lay at hlay
      rw [if_pos hfin] at hlay
      have hcf : m.cls = cf := by
        obtain ⟨_, _, c', _, _, _, -, -, hf', -, -, -, hown2, -⟩ := Cond.laysFinal_spec hlay
        have e1 : c' = cf := by have := hi.symm.trans hf'; simp at this; exact this.1.symm
        rw [hdecl k hkN, h2] at hown2
        rw [← e1]; exact Option.some.inj (hown.symm.trans hown2)
      have h6 := u_fits hfc hkC hkind (Or.inr hlay) hi (hty k hkN) hn hfit
      exact W.putFinK hx hb hown (hts _ hw) hi hst hcf (hini h1) (by rw [q2]; exact h6) q1 q3 hlt rfl rfl hd hend
    · have hlay := hts _ (hin1 _ (u_in_lay hkN))
      unfold u_lay at hlay
      rw [if_neg hfin] at hlay
      have h6 := u_store hfc hkC hkind hlay hi (hty k hkN) hn hfit
      exact W.putK hx hb (f := f) ⟨hown, hts _ hw, ⟨_, _, _, hi⟩, hst⟩ (by rw [q2]; exact h6) q1 q3 hlt rfl rfl hd hend
  · by_cases hfin : (q.2.1 k).2.2.2 = true
    · obtain ⟨w, rfl, hw2, h1, h2⟩ := key q k hq hkN rfl hfin
      have hlay := hts _ (hin1 _ (u_in_lay hkN))
      unfold u_lay at hlay
      rw [if_pos hfin] at hlay
      have hcf : m.cls = cf := by
        obtain ⟨_, _, c', _, _, _, -, -, hf', -, -, -, hown2, -⟩ := Cond.laysFinal_spec hlay
        have e1 : c' = cf := by have := hi.symm.trans hf'; simp at this; exact this.1.symm
        rw [hdecl k hkN, h2] at hown2
        rw [← e1]; exact Option.some.inj (hown.symm.trans hown2)
      have h6 := u_fits hfc hkC hkind (Or.inr hlay) hi (hty k hkN) hn hfit
      exact W.putFinK hx hb hown (hts _ hw2) hi hst hcf (hini h1) (by rw [q2]; exact h6) q1 q3 hlt rfl rfl hd hend
    · have hlay := hts _ (hin1 _ (u_in_lay hkN))
      unfold u_lay at hlay
      rw [if_neg hfin] at hlay
      have h6 := u_store hfc hkC hkind hlay hi (hty k hkN) hn hfit
      exact va_WputK hx hb (f := f) hown (va_Nw.use rfl (hnw _ hw rfl)) hi hst (by rw [q2]; exact h6) q1 q3 hlt rfl rfl hd hend
/-- a row of the memory -/
theorem zi_arr (hW : zi_W s D base σ H) {x : Int} {k : Nat} (hk : (σ.1 x).1 = k) {ty : FieldType} (ht : zi_ak k = some ty) : ∃ a : Nat, x = (a : Int) + 1 ∧ zi_ro x = some a ∧ base ≤ a ∧ zi_ir (σ.1 x).2 ∧ 0 ≤ (σ.1 x).2 ∧ (∃ cA, ArrOfT s cA ty ∧ va_RA s cA ty ∧ H[a]? = some (arrV cA (σ.1 x).2.toNat (fun j => zi_v (zi_mkv (zi_et k) (zi_rd σ (zi_et k) x j))))) ∧ ∀ j : Nat, j < (σ.1 x).2.toNat → zi_in (zi_mkv (zi_et k) (zi_rd σ (zi_et k) x j)) := by
  have h9 : k ≠ 99 := by
    rintro rfl
    simp [zi_ak] at ht
  obtain ⟨a, hx, hr⟩ := zi_kind_pos hW hk h9
  obtain ⟨-, h1, -⟩ := hW.2.2.2 a
  rw [← hx] at h1
  subst hk
  obtain ⟨b1, b2, b3, b4, b5⟩ := h1 ty ht
  exact ⟨a, hx, hr, b1, b2, b3, b4, b5⟩
theorem zi_scr (hW : zi_W s D base σ H) {x : Int} (hk : (σ.1 x).1 = 18) : ∃ a : Nat, x = (a : Int) + 1 ∧ zi_ro x = some a ∧ zi_ir (σ.1 x).2 ∧ 0 ≤ (σ.1 x).2 ∧ (∃ cell : Cell, H[a]? = some cell ∧ s.isArrayOf cell .int ∧ cell.vm ≠ .unknown ∧ cell.slots.size = (σ.1 x).2.toNat ∧ ∀ j : Nat, j < (σ.1 x).2.toNat → cell.slots[j]? = some (.int (Int32.ofInt (σ.2.1 x j)))) ∧ ∀ j : Nat, j < (σ.1 x).2.toNat → zi_ir (σ.2.1 x j) := by
  obtain ⟨a, hx, hr⟩ := zi_kind_pos hW hk (by decide)
  obtain ⟨-, -, h1⟩ := hW.2.2.2 a
  rw [← hx] at h1
  obtain ⟨b1, b2, b3, b4⟩ := h1 hk
  exact ⟨a, hx, hr, b1, b2, b3, b4⟩
theorem zi_iald (C : zi_cx p s m args meth c D cc nL own ini) (hW : zi_W s D base σ H) {x j : Int} (hk : (σ.1 x).1 = 12 ∨ (σ.1 x).1 = 18) (hj : zi_ir j) (h0 : 0 ≤ j) (hn : j < (σ.1 x).2) (hd : decode cc pc = .ok (.iaload, 1))
    (kk : zi_ir (σ.2.1 x j) → W p l e R s m args below meth c H locs cells slots Q (F0 m (pc + 1) L (.int (Int32.ofInt (σ.2.1 x j)) :: rest))) : W p l e R s m args below meth c H locs cells slots Q (F0 m pc L (.int (Int32.ofInt j) :: zi_v (.inr (.inr x)) :: rest)) := by
  obtain ⟨hx, hb, -, hown, hts, hK, hnw, -⟩ := C
  obtain ⟨hin, hjj⟩ := zi_idx hj h0 hn
  have hlt : (Int32.ofInt j).toNatClampNeg < (σ.1 x).2.toNat := by omega
  rcases hk with hk | hk
  · obtain ⟨a, ex, er, -, -, -, ⟨cA, h1, h2, h3⟩, h4⟩ := zi_arr hW hk (ty := .int) rfl
    rw [zi_vr er]
    have h5 := h4 _ hlt
    rw [hjj] at h5
    refine W.iald (v := .int (Int32.ofInt (σ.2.1 x j))) hx hb h3 (h1 _ _) (fun q => by cases q) (by rw [arrV_size]; exact hin) ?_ rfl rfl hd (kk h5)
    rw [arrV_read _ _ hlt, hjj]
    rfl
  · obtain ⟨a, ex, er, -, -, ⟨cell, h1, h2, h3, h5, h6⟩, h4⟩ := zi_scr hW hk
    rw [zi_vr er]
    have h7 := h4 _ hlt
    rw [hjj] at h7
    refine W.iald (v := .int (Int32.ofInt (σ.2.1 x j))) hx hb h1 h2 h3 (by rw [h5]; exact hin) ?_ rfl rfl hd (kk h7)
    rw [h6 _ hlt, hjj]
theorem zi_zald (C : zi_cx p s m args meth c D cc nL own ini) (hW : zi_W s D base σ H) {x j : Int} (hk : (σ.1 x).1 = 13) (hj : zi_ir j) (h0 : 0 ≤ j) (hn : j < (σ.1 x).2) (hd : decode cc pc = .ok (.baload, 1))
    (kk : zi_ir (σ.2.1 x j) → W p l e R s m args below meth c H locs cells slots Q (F0 m (pc + 1) L (.int (Int32.ofInt (σ.2.1 x j)) :: rest))) : W p l e R s m args below meth c H locs cells slots Q (F0 m pc L (.int (Int32.ofInt j) :: zi_v (.inr (.inr x)) :: rest)) := by
  obtain ⟨hx, hb, -, hown, hts, hK, hnw, -⟩ := C
  obtain ⟨hin, hjj⟩ := zi_idx hj h0 hn
  have hlt : (Int32.ofInt j).toNatClampNeg < (σ.1 x).2.toNat := by omega
  obtain ⟨a, ex, er, -, -, -, ⟨cA, h1, h2, h3⟩, h4⟩ := zi_arr hW hk (ty := .boolean) rfl
  rw [zi_vr er]
  have h5 := h4 _ hlt
  rw [hjj] at h5
  refine W.zald (v := .int (Int32.ofInt (σ.2.1 x j))) hx hb h3 (h1 _ _) (fun q => by cases q) (by rw [arrV_size]; exact hin) ?_ rfl rfl hd (kk h5)
  rw [arrV_read _ _ hlt, hjj]
  rfl
theorem zi_aald (C : zi_cx p s m args meth c D cc nL own ini) (hW : zi_W s D base σ H) {x j : Int} {k : Nat} (hk : (σ.1 x).1 = k) (hk2 : 14 ≤ k ∧ k ≤ 17) (hj : zi_ir j) (h0 : 0 ≤ j) (hn : j < (σ.1 x).2) (hd : decode cc pc = .ok (.aaload, 1))
    (kk : zi_in (.inr (.inr (σ.2.2.1 x j))) → W p l e R s m args below meth c H locs cells slots Q (F0 m (pc + 1) L (zi_v (.inr (.inr (σ.2.2.1 x j))) :: rest))) : W p l e R s m args below meth c H locs cells slots Q (F0 m pc L (.int (Int32.ofInt j) :: zi_v (.inr (.inr x)) :: rest)) := by
  obtain ⟨hx, hb, -, hown, hts, hK, hnw, -⟩ := C
  obtain ⟨hin, hjj⟩ := zi_idx hj h0 hn
  have hlt : (Int32.ofInt j).toNatClampNeg < (σ.1 x).2.toNat := by omega
  obtain ⟨E, hE, het⟩ : ∃ E, zi_ak k = some (.object E) ∧ zi_et k = 3 := by
    rcases (show k = 14 ∨ k = 15 ∨ k = 16 ∨ k = 17 by omega) with rfl | rfl | rfl | rfl <;> exact ⟨_, rfl, rfl⟩
  obtain ⟨a, ex, er, -, -, -, ⟨cA, h1, h2, h3⟩, h4⟩ := zi_arr hW hk hE
  rw [zi_vr er]
  have h5 := h4 _ hlt
  rw [hjj, het] at h5
  refine W.aald (v := zi_v (.inr (.inr (σ.2.2.1 x j)))) (ty := .object E) hx hb h3 (h1 _ _) rfl (fun q => by cases q) (by rw [arrV_size]; exact hin) ?_ rfl rfl hd (kk h5)
  rw [arrV_read _ _ hlt, hjj, het]
  rfl
theorem zi_alen (C : zi_cx p s m args meth c D cc nL own ini) (hW : zi_W s D base σ H) {x : Int} {k : Nat} (hk : (σ.1 x).1 = k) (hk2 : 12 ≤ k ∧ k ≤ 18) (hd : decode cc pc = .ok (.arraylength, 1))
    (kk : zi_ir (σ.1 x).2 → W p l e R s m args below meth c H locs cells slots Q (F0 m (pc + 1) L (.int (Int32.ofInt (σ.1 x).2) :: rest))) : W p l e R s m args below meth c H locs cells slots Q (F0 m pc L (zi_v (.inr (.inr x)) :: rest)) := by
  obtain ⟨hx, hb, -, hown, hts, hK, hnw, -⟩ := C
  have key : ∀ n : Int, zi_ir n → 0 ≤ n → n.toNat.toInt32 = Int32.ofInt n := by
    intro n hn h0
    have e : n = (n.toNat : Int) := by omega
    rw [e]
    rfl
  by_cases h18 : k = 18
  · subst h18
    obtain ⟨a, ex, er, h5, h6, ⟨cell, h1, h2, h3, h7, h8⟩, h4⟩ := zi_scr hW hk
    rw [zi_vr er]
    exact W.alen hx hb h1 h2 (by rw [h7]; exact key _ h5 h6) rfl rfl hd (kk h5)
  · obtain ⟨ty, hE⟩ : ∃ ty, zi_ak k = some ty := by
      rcases (show k = 12 ∨ k = 13 ∨ k = 14 ∨ k = 15 ∨ k = 16 ∨ k = 17 by omega) with rfl | rfl | rfl | rfl | rfl | rfl <;> exact ⟨_, rfl⟩
    obtain ⟨a, ex, er, -, h5, h6, ⟨cA, h1, h2, h3⟩, h4⟩ := zi_arr hW hk hE
    rw [zi_vr er]
    exact W.alen hx hb h3 (h1 _ _) (by rw [arrV_size]; exact key _ h5 h6) rfl rfl hd (kk h5)
theorem zi_locs {locs : List Loc} {base a k : Nat} (h : ∀ q ∈ locs, base ≤ q.base) (ha : base ≤ a) : ∀ q ∈ locs ++ [(⟨a, k⟩ : Loc)], base ≤ q.base := by
  intro z hz
  rcases List.mem_append.mp hz with h1 | h1
  · exact h z h1
  · rw [List.mem_singleton.mp h1]; exact ha
theorem zi_iast (C : zi_cx p s m args meth c D cc nL own ini) (hW : zi_W s D base σ H) (hlo : ∀ q ∈ locs, base ≤ q.base) {x j v : Int} (hk : (σ.1 x).1 = 12) (hj : zi_ir j) (h0 : 0 ≤ j) (hn : j < (σ.1 x).2) (hv : zi_ir v) (hd : decode cc pc = .ok (.iastore, 1))
    (kk : ∀ (H1 : Heap) (locs1 : List Loc), zi_W s D base (zi_wr σ x j v) H1 → (∀ q ∈ locs1, base ≤ q.base) → W p l e R s m args below meth c H1 locs1 cells slots Q (F0 m (pc + 1) L rest)) : W p l e R s m args below meth c H locs cells slots Q (F0 m pc L (.int (Int32.ofInt v) :: .int (Int32.ofInt j) :: zi_v (.inr (.inr x)) :: rest)) := by
  obtain ⟨hx, hb, -, hown, hts, hK, hnw, -⟩ := C
  obtain ⟨hin, hjj⟩ := zi_idx hj h0 hn
  have hlt : (Int32.ofInt j).toNatClampNeg < (σ.1 x).2.toNat := by omega
  obtain ⟨a, ex, er, hba, -, -, ⟨cA, h1, h2, h3⟩, h4⟩ := zi_arr hW hk (ty := .int) rfl
  rw [zi_vr er]
  refine W.iast hx hb h3 (h1 _ _) (fun q => by cases q) (by rw [arrV_size]; exact hin) rfl rfl hd fun H1 e1 z1 o1 => ?_
  refine kk H1 _ (zi_W_arr (ty := .int) hW ex (by rw [hk]; rfl) zi_only_wr ?_ ?_ z1 o1) (zi_locs hlo hba)
  · intro i hi
    rw [hk]
    show zi_ir (zi_up σ.2.1 x j v x i)
    by_cases hij : (i : Int) = j
    · subst hij; rw [zi_up_eq]; exact hv
    · rw [zi_up_nk hij]; exact h4 i hi
  · intro cB hB
    rw [hk] at hB ⊢
    have hcc : arrV cA (σ.1 x).2.toNat (fun j => zi_v (zi_mkv (zi_et 12) (zi_rd σ (zi_et 12) x j))) = arrV cB (σ.1 x).2.toNat (fun j => zi_v (zi_mkv (zi_et 12) (zi_rd σ (zi_et 12) x j))) := Option.some.inj (h3.symm.trans hB)
    rw [e1, hcc, arrV_store]
    congr 2
    funext i
    show updV _ _ _ i = Value.int (Int32.ofInt (zi_up σ.2.1 x j v x i))
    unfold updV
    by_cases hi : i = (Int32.ofInt j).toNatClampNeg
    · subst hi
      rw [if_pos rfl, hjj, zi_up_eq]
    · rw [if_neg hi, zi_up_nk (by omega)]
      rfl
theorem zi_zast (C : zi_cx p s m args meth c D cc nL own ini) (hW : zi_W s D base σ H) (hlo : ∀ q ∈ locs, base ≤ q.base) {x j v : Int} (hk : (σ.1 x).1 = 13) (hj : zi_ir j) (h0 : 0 ≤ j) (hn : j < (σ.1 x).2) (hv : v = 0 ∨ v = 1) (hd : decode cc pc = .ok (.bastore, 1))
    (kk : ∀ (H1 : Heap) (locs1 : List Loc), zi_W s D base (zi_wr σ x j v) H1 → (∀ q ∈ locs1, base ≤ q.base) → W p l e R s m args below meth c H1 locs1 cells slots Q (F0 m (pc + 1) L rest)) : W p l e R s m args below meth c H locs cells slots Q (F0 m pc L (.int (Int32.ofInt v) :: .int (Int32.ofInt j) :: zi_v (.inr (.inr x)) :: rest)) := by
  obtain ⟨hx, hb, -, hown, hts, hK, hnw, -⟩ := C
  obtain ⟨hin, hjj⟩ := zi_idx hj h0 hn
  have hlt : (Int32.ofInt j).toNatClampNeg < (σ.1 x).2.toNat := by omega
  obtain ⟨a, ex, er, hba, -, -, ⟨cA, h1, h2, h3⟩, h4⟩ := zi_arr hW hk (ty := .boolean) rfl
  rw [zi_vr er]
  refine W.zast hx hb h3 (h1 _ _) (fun q => by cases q) (by rw [arrV_size]; exact hin) rfl rfl hd fun H1 e1 z1 o1 => ?_
  have hnar : narrow .boolean (.int (Int32.ofInt v)) = .int (Int32.ofInt v) := by rcases hv with rfl | rfl <;> decide
  rw [hnar] at e1
  refine kk H1 _ (zi_W_arr (ty := .boolean) hW ex (by rw [hk]; rfl) zi_only_wr ?_ ?_ z1 o1) (zi_locs hlo hba)
  · intro i hi
    rw [hk]
    show zi_ir (zi_up σ.2.1 x j v x i)
    by_cases hij : (i : Int) = j
    · subst hij; rw [zi_up_eq]
      unfold zi_ir
      rcases hv with rfl | rfl <;> omega
    · rw [zi_up_nk hij]; exact h4 i hi
  · intro cB hB
    rw [hk] at hB ⊢
    have hcc : arrV cA (σ.1 x).2.toNat (fun j => zi_v (zi_mkv (zi_et 13) (zi_rd σ (zi_et 13) x j))) = arrV cB (σ.1 x).2.toNat (fun j => zi_v (zi_mkv (zi_et 13) (zi_rd σ (zi_et 13) x j))) := Option.some.inj (h3.symm.trans hB)
    rw [e1, hcc, arrV_store]
    congr 2
    funext i
    show updV _ _ _ i = Value.int (Int32.ofInt (zi_up σ.2.1 x j v x i))
    unfold updV
    by_cases hi : i = (Int32.ofInt j).toNatClampNeg
    · subst hi
      rw [if_pos rfl, hjj, zi_up_eq]
    · rw [if_neg hi, zi_up_nk (by omega)]
      rfl
theorem zi_aast (C : zi_cx p s m args meth c D cc nL own ini) (hW : zi_W s D base σ H) (hlo : ∀ q ∈ locs, base ≤ q.base) {x j v : Int} {k b : Nat} {E : String} {q : vw_C} (hk : (σ.1 x).1 = k) (hE : zi_ak k = some (.object E)) (hk14 : 14 ≤ k) (hq : vwCl[b]? = some q) (hqE : q.1 = E) (hvk : (σ.1 v).1 = b) (hj : zi_ir j) (h0 : 0 ≤ j) (hn : j < (σ.1 x).2) (hd : decode cc pc = .ok (.aastore, 1))
    (kk : ∀ (H1 : Heap) (locs1 : List Loc), zi_W s D base (zi_wq σ x j v) H1 → (∀ q ∈ locs1, base ≤ q.base) → W p l e R s m args below meth c H1 locs1 cells slots Q (F0 m (pc + 1) L rest)) : W p l e R s m args below meth c H locs cells slots Q (F0 m pc L (zi_v (.inr (.inr v)) :: .int (Int32.ofInt j) :: zi_v (.inr (.inr x)) :: rest)) := by
  obtain ⟨hx, hb, -, hown, hts, hK, hnw, -⟩ := C
  obtain ⟨hin, hjj⟩ := zi_idx hj h0 hn
  have hlt : (Int32.ofInt j).toNatClampNeg < (σ.1 x).2.toNat := by omega
  have het : zi_et k = 3 := by
    unfold zi_ak at hE
    split at hE <;> first | rfl | omega | cases hE
  obtain ⟨a, ex, er, hba, -, -, ⟨cA, h1, h2, h3⟩, h4⟩ := zi_arr hW hk hE
  obtain ⟨av, evx, evr, -, ⟨cellV, g1, g2, g3, -⟩, -⟩ := zi_obj hW hvk hq
  rw [zi_vr er, zi_vr evr]
  have hcls := (hK.1 b q hq).2
  obtain ⟨kA, comp, k1, k2, k3, -⟩ := h2
  rw [hqE] at hcls
  have hcomp : comp = D.1 b := Option.some.inj (k3.symm.trans hcls.1)
  subst hcomp
  obtain ⟨kC, hkC, -⟩ := id hcls.2
  refine W.aast hx hb h3 (fun q h => by cases h) (fun h => by cases h) k1 k2 rfl hkC ⟨fun h => hin (Or.inl h), by rw [arrV_size]; exact hlt⟩ g1 (fun q h => by rw [g3] at h; cases h) (by rw [g2]; exact hkC) (by rw [g2]; exact va_assign hcls) rfl rfl hd fun H1 e1 z1 o1 => ?_
  refine kk H1 _ (zi_W_arr hW ex (by rw [hk]; exact hE) zi_only_wq ?_ ?_ z1 o1) (zi_locs hlo hba)
  · intro i hi
    rw [hk, het]
    show (0 : Int) ≤ zi_up σ.2.2.1 x j v x i
    by_cases hij : (i : Int) = j
    · subst hij; rw [zi_up_eq]
      omega
    · rw [zi_up_nk hij]
      have := h4 i hi
      rw [het] at this
      exact this
  · intro cB hB
    rw [hk, het] at hB ⊢
    rw [het] at h3 e1
    have hcc : arrV cA (σ.1 x).2.toNat (fun j => zi_v (zi_mkv 3 (zi_rd σ 3 x j))) = arrV cB (σ.1 x).2.toNat (fun j => zi_v (zi_mkv 3 (zi_rd σ 3 x j))) := Option.some.inj (h3.symm.trans hB)
    rw [e1, hcc, arrV_store]
    congr 2
    funext i
    show updV _ _ _ i = zi_v (.inr (.inr (zi_up σ.2.2.1 x j v x i)))
    unfold updV
    by_cases hi : i = (Int32.ofInt j).toNatClampNeg
    · subst hi
      rw [if_pos rfl, hjj, zi_up_eq]
      exact (zi_vr evr).symm
    · rw [if_neg hi, zi_up_nk (by omega)]
      rfl
theorem zi_newI (C : zi_cx p s m args meth c D cc nL own ini) (hW : zi_W s D base σ H) {at0 : ArrayType} {k : Nat} (hk : (at0 = .int ∧ k = 12) ∨ (at0 = .boolean ∧ k = 13)) (hwd : Jvm.Cond.arrayClass .int ∈ zi_tb ∧ Jvm.Cond.arrayClass .boolean ∈ zi_tb) {n : Int} (h0 : 0 ≤ n) (hn : n ≤ 100000) (hcells : cells + 1 ≤ R.cells) (hslots : slots + n.toNat ≤ R.slots) (hd : decode cc pc = .ok (.newarray at0, 2))
    (kk : ∀ H1 : Heap, zi_W s D base (zi_new σ k n n.toNat) H1 → W p l e R s m args below meth c H1 locs (cells + 1) (slots + n.toNat) Q (F0 m (pc + 2) L (zi_v (.inr (.inr σ.2.2.2.1)) :: rest))) : W p l e R s m args below meth c H locs cells slots Q (F0 m pc L (.int (Int32.ofInt n) :: rest)) := by
  obtain ⟨hx, hb, -, hown, hts, hK, hnw, -⟩ := C
  have hir : zi_ir n := by unfold zi_ir; omega
  have hnn : (Int32.ofInt n).toNatClampNeg = n.toNat := by
    show (Int32.ofInt n).toInt.toNat = _
    rw [zi_oi' hir]
  have hneg : ¬ Int32.ofInt n < 0 := by rw [zi_z, zi_lt hir zi_ir0]; omega
  have hro : zi_v (.inr (.inr σ.2.2.2.1)) = .ref H.size := by
    apply zi_vr
    unfold zi_ro
    have := hW.1
    rw [if_neg (by omega)]
    congr 1
    omega
  rcases hk with ⟨rfl, rfl⟩ | ⟨rfl, rfl⟩
  · refine va_newaK (atype := .int) (N := n.toNat) hx hb (hts _ hwd.1) rfl hd rfl hneg hnn ?_ hcells hslots rfl fun H1 cA e1 z1 o1 hA hN => ?_
    · show n.toNat * 4 ≤ 536870912
      omega
    · have := kk H1 (zi_W_new hW (by decide) z1 o1 (fun q hq => by simp [vwCl] at hq) (fun ty hty => by cases hty; exact ⟨hir, h0, cA, hA, hN, e1⟩))
      rw [hro] at this
      exact this
  · refine va_newaK (atype := .boolean) (N := n.toNat) hx hb (hts _ hwd.2) rfl hd rfl hneg hnn ?_ hcells hslots rfl fun H1 cA e1 z1 o1 hA hN => ?_
    · show n.toNat * 1 ≤ 536870912
      omega
    · have := kk H1 (zi_W_new hW (by decide) z1 o1 (fun q hq => by simp [vwCl] at hq) (fun ty hty => by cases hty; exact ⟨hir, h0, cA, hA, hN, e1⟩))
      rw [hro] at this
      exact this
theorem zi_newQ (C : zi_cx p s m args meth c D cc nL own ini) (hW : zi_W s D base σ H) {idx a : Nat} (hp : zi_pm recs own (idx, 9, a, 0)) {n : Int} (h0 : 0 ≤ n) (hn : n ≤ 100000) (hcells : cells + 1 ≤ R.cells) (hslots : slots + n.toNat ≤ R.slots) (hd : decode cc pc = .ok (.anewarray idx, 3))
    (kk : ∀ H1 : Heap, zi_W s D base (zi_new σ a n n.toNat) H1 → W p l e R s m args below meth c H1 locs (cells + 1) (slots + n.toNat) Q (F0 m (pc + 3) L (zi_v (.inr (.inr σ.2.2.2.1)) :: rest))) : W p l e R s m args below meth c H locs cells slots Q (F0 m pc L (.int (Int32.ofInt n) :: rest)) := by
  obtain ⟨hx, hb, -, hown, hts, hK, hnw, -⟩ := C
  obtain ⟨E, hE, hw1, hw2⟩ := hp
  change zi_ak a = some (.object E) at hE
  have hir : zi_ir n := by unfold zi_ir; omega
  have hnn : (Int32.ofInt n).toNatClampNeg = n.toNat := by
    show (Int32.ofInt n).toInt.toNat = _
    rw [zi_oi' hir]
  have hneg : ¬ Int32.ofInt n < 0 := by rw [zi_z, zi_lt hir zi_ir0]; omega
  have hro : zi_v (.inr (.inr σ.2.2.2.1)) = .ref H.size := by
    apply zi_vr
    unfold zi_ro
    have := hW.1
    rw [if_neg (by omega)]
    congr 1
    omega
  have ha : 14 ≤ a ∧ a ≤ 17 := by
    unfold zi_ak at hE
    split at hE <;> first | omega | cases hE
  have het : zi_et a = 3 := by
    rcases (show a = 14 ∨ a = 15 ∨ a = 16 ∨ a = 17 by omega) with rfl | rfl | rfl | rfl <;> rfl
  refine W.anew hx hb hown (hts _ hw1) (va_AO.use (hnw _ hw2 rfl)) rfl hd rfl hneg (by rw [hnn]; omega) hcells (by rw [hnn]; exact hslots) fun cA kA comp f1 f2 f3 f4 => ?_
  rw [hnn]
  generalize hH1 : H.push ({ cls := cA, slots := Array.replicate n.toNat .null, vm := .none } : Cell) = H1
  have z1 : H1.size = H.size + 1 := by rw [← hH1, Array.size_push]
  have e1 : H1[H.size]? = some (arrV cA n.toNat (fun _ => .null)) := by rw [← hH1, Array.getElem?_push_size, ← arrV_new]
  have o1 : ∀ q : Nat, q < H.size → H1[q]? = H[q]? := fun q hq => by rw [← hH1, Array.getElem?_push, if_neg (Nat.ne_of_lt hq)]
  have hAr : ArrOfT s cA (.object E) := fun N z => ⟨(fun k h => by cases h), kA, f2, comp, f3⟩
  have := kk H1 (zi_W_new hW (by omega) z1 o1 (fun q hq => by
    exfalso
    have := (List.getElem?_eq_some_iff.mp hq).1
    simp [vwCl] at this
    omega) (fun ty hty => by
      rw [hE] at hty
      cases hty
      rw [het]
      exact ⟨hir, h0, cA, hAr, ⟨kA, comp, f2, f3, f4, f1⟩, e1⟩))
  rw [hro] at this
  exact this
theorem zi_dv {t : Nat} {ty : FieldType} (h : zi_tk t ty) : defaultValue ty = zi_v (zi_mkv t 0) := by
  match t, h with
  | 1, h => cases h; decide
  | 2, h => cases h; decide
  | 3, h => rcases h with ⟨C, rfl⟩ | ⟨t, rfl⟩ <;> rfl
theorem zi_newO (C : zi_cx p s m args meth c D cc nL own ini) (hW : zi_W s D base σ H) {idx a : Nat} {b : Int} (hp : zi_pm recs own (idx, 8, a, b)) (hcells : cells + 1 ≤ R.cells) (hslots : slots + b.toNat ≤ R.slots) (hd : decode cc pc = .ok (.new idx, 3))
    (kk : ∀ H1 : Heap, zi_W s D base (zi_new σ a 0 b.toNat) H1 → W p l e R s m args below meth c H1 locs (cells + 1) (slots + b.toNat) Q (F0 m (pc + 3) L (zi_v (.inr (.inr σ.2.2.2.1)) :: rest))) : W p l e R s m args below meth c H locs cells slots Q (F0 m pc L rest) := by
  obtain ⟨hx, hb, -, hown, hts, hK, hnw, -⟩ := C
  obtain ⟨q, hq, hbq, hw1, hw2, hw3⟩ := hp
  change b = (q.2.2 : Int) at hbq
  have hbn : b.toNat = q.2.2 := by omega
  rw [hbn] at hslots kk
  have hro : zi_v (.inr (.inr σ.2.2.2.1)) = .ref H.size := by
    apply zi_vr
    unfold zi_ro
    have := hW.1
    rw [if_neg (by omega)]
    congr 1
    omega
  obtain ⟨hin1, ty, hty, hnm, htk, hdecl⟩ := zi_cls hq
  have hKn := hK.1 a _ hq
  refine W.newcK hx hb hown (hts _ hw1) (hts _ hw2) (hts _ hw3) rfl hd hcells hslots hKn.2.1 rfl fun H1 kC hkC e1 z1 o1 => ?_
  have ha : a < 12 := by
    have := (List.getElem?_eq_some_iff.mp hq).1
    simpa [vwCl] using this
  have := kk H1 (zi_W_new hW (by omega) z1 o1 (fun q' hq' => by
    have e : q' = q := Option.some.inj (hq'.symm.trans hq)
    subst e
    exact (u_born ty hts hin1 hKn hkC e1 hty).to (fun i hi => zi_dv (htk i hi))) (fun ty hty => by
      exfalso
      unfold zi_ak at hty
      split at hty <;> first | omega | cases hty))
  rw [hro] at this
  exact this
end ZH
end
section
/-! calls -/
def zi_rv (rk : Nat) (r : Int) : Option Value := match rk with
  | 0 => none
  | t => some (zi_v (zi_mkv t r))
def zi_Pc (D : va_G) (base : Nat) (vs : List zV) (σ : zM) : Array Value → State → Prop := fun A U => A = (vs.map zi_v).toArray ∧ va_K D vwCl [] U ∧ zi_nw U ∧ zi_W U D base σ U.heap
def zi_Qc (D : va_G) (base rk : Nat) (r : Int) (σ' : zM) : Array Value → State → Outcome → State → Prop := fun _ _ o t => o = .returned (zi_rv rk r) ∧ zi_in (zi_mkv rk r) ∧ va_K D vwCl [] t ∧ zi_W t D base σ' t.heap
def zi_rm (d mc ms : Nat) : Room := { frames := d, cells := mc, slots := ms, locals := 38 * d }
def zi_ws (r : zi_rec) : List Jvm.Cond := Jvm.Cond.code r.1 r.2.1 r.2.2.2.2.2.2.1 r.2.2.1 :: zi_tb
def zi_rok (r : zi_rec) : Prop := Jvm.Cond.code r.1 r.2.1 r.2.2.2.2.2.2.1 r.2.2.1 ∈ zi_tb ∧ Jvm.Cond.initialized r.1.cls ∈ zi_tb ∧ r.1.cls ≠ "java/lang/invoke/MethodHandle" ∧ r.1.cls ≠ "java/lang/invoke/VarHandle" ∧ (parseMethodDescriptor r.1.desc).map (fun d => d.parameters.length) = some r.2.2.2.1 ∧ r.2.2.2.2.2.2.1 ≤ 19
theorem zi_good {w : Jvm.Cond} (h : w ∈ zi_tb) : (w.onTables && w.keeps) = true ∨ ∃ ty, w = .arrayClass ty := good_of_word (List.mem_filter.mp h).2
theorem zi_gin {r : zi_rec} (h : zi_rok r) : GoodIn zi_tb (zi_ws r) := by
  intro w hw
  rcases List.mem_cons.mp hw with h1 | h1
  · rw [h1]; exact ⟨h.1, zi_good h.1⟩
  · exact ⟨h1, zi_good h1⟩
def zi_Met (l : Launch) (r : zi_rec) (d : Nat) (vs : List zV) (σ : zM) (x : Int) (σ' : zM) : Prop := ∀ (D : va_G) (base : Nat), Met l r.1 (zi_ws r) (zi_rm d (σ'.2.2.2.1 - σ.2.2.2.1).toNat (σ'.2.2.2.2 - σ.2.2.2.2)) (zi_Pc D base vs σ) (zi_Qc D base r.2.2.2.2.2.2.2 x σ') (σ'.2.2.2.1 - σ.2.2.2.1).toNat (σ'.2.2.2.2 - σ.2.2.2.2) (fun q => base ≤ q)
theorem zi_isN_on {w : Jvm.Cond} (h : zi_isN w = true) : w.onTables = true ∨ ∃ C, w = .arrayOver (.object C) := by
  match w, h with
  | .fieldLinkNest _ _ _ _ _ _, _ => exact Or.inl rfl
  | .methodLinkNest _ _ _ _, _ => exact Or.inl rfl
  | .arrayOver (.object C), _ => exact Or.inr ⟨C, rfl⟩
theorem zi_nw.same {s U : State} (hv : s.vm = U.vm) (h : zi_nw s) : zi_nw U := by
  intro w hw hn
  rcases zi_isN_on hn with h1 | ⟨C, rfl⟩
  · exact va_Nw.same h1 hv (h w hw hn)
  · exact va_AO.moved (by rw [hv]; exact Vm.Alike.refl _) (h _ hw hn)
theorem zi_blind {D : va_G} {base : Nat} {vs : List zV} {σ : zM} : FrameBlind (zi_Pc D base vs σ) := fun a U g mk h => ⟨h.1, va_K.moved (u := U) (U := U.calling g mk a) (Vm.Alike.refl U.vm) h.2.1, zi_nw.same (s := U) (U := U.calling g mk a) rfl h.2.2.1, zi_W.moved (u := U) (U := U.calling g mk a) (Vm.Alike.refl U.vm) h.2.2.2⟩
theorem zi_cats_eq : ∀ r : List zV, ((r.map zi_v).map fun v => v.category).sum = zi_cats r
  | [] => rfl
  | .inl x :: r => by
    have := zi_cats_eq r
    simp only [List.map_cons, List.sum_cons, zi_cats, this]
    rfl
  | .inr (.inl x) :: r => by
    have := zi_cats_eq r
    simp only [List.map_cons, List.sum_cons, zi_cats, this]
    rfl
  | .inr (.inr x) :: r => by
    have := zi_cats_eq r
    simp only [List.map_cons, List.sum_cons, zi_cats, this]
    have h : (zi_v (.inr (.inr x))).category = 1 := zi_v_cat1 rfl
    rw [h]
theorem zi_push_eq (rk : Nat) (x : Int) (r : List zV) : (zi_rv rk x).toList ++ r.map zi_v = (zi_push rk x r).map zi_v := by
  unfold zi_rv zi_push
  split <;> simp only [Option.toList, List.nil_append, List.cons_append] <;> (split <;> first | rfl | simp_all [zi_mkv])
theorem zi_push_in {rk : Nat} {x : Int} {r : List zV} (hx : zi_in (zi_mkv rk x)) (hr : ∀ v ∈ r, zi_in v) : ∀ v ∈ zi_push rk x r, zi_in v := by
  unfold zi_push
  intro v hv
  split at hv
  · exact hr v hv
  all_goals
    rcases List.mem_cons.mp hv with h | h
    · rw [h]
      first | exact hx | (unfold zi_mkv at hx; split at hx <;> first | exact hx | (exfalso; simp_all))
    · exact hr v h
theorem zi_take_spec : ∀ {n : Nat} {acc st vs r : List zV}, zi_take n acc st = some (vs, r) → ∃ a, vs = a ++ acc ∧ st = a.reverse ++ r ∧ a.length = n
  | 0, acc, st, vs, r, h => by cases h; exact ⟨[], rfl, rfl, rfl⟩
  | n + 1, acc, [], vs, r, h => by cases h
  | n + 1, acc, v :: st, vs, r, h => by
    obtain ⟨a, h1, h2, h3⟩ := zi_take_spec (n := n) (acc := v :: acc) (st := st) h
    refine ⟨a ++ [v], by rw [h1]; simp, by rw [h2]; simp, by simp [h3]⟩
section ZC
variable {p : Program} {l : Launch} {e : Env} {R : Room} {s : State} {m : MethodId} {args : Array Value} {below : List Frame} {meth : Method} {c : Code} {H : Heap} {locs : List Loc} {cells slots : Nat} {Q : State → Prop} {D : va_G} {cc : ByteArray} {nL : Nat} {own : String} {ini : Bool} {base : Nat} {σ σ' : zM} {recs : List zi_rec} {pc : Nat} {L : Array Slot}
theorem zi_ran {mc ms rk : Nat} {x : Int} {restV st0 : List Value} {A : Array Value} (hr : va_Run p l e R s m args below meth c H locs cells slots mc ms (F0 m pc L st0) restV (zi_Qc D base rk x σ' A) (fun q => base ≤ q)) (hlo : ∀ q ∈ locs, base ≤ q.base)
    (kk : ∀ (H1 : Heap) (locs1 : List Loc), zi_W s D base σ' H1 → zi_in (zi_mkv rk x) → (∀ q ∈ locs1, base ≤ q.base) → W p l e R s m args below meth c H1 locs1 (cells + mc) (slots + ms) Q (F0 m (pc + 3) L ((zi_rv rk x).toList ++ restV))) : W p l e R s m args below meth c H locs cells slots Q (F0 m pc L st0) := by
  intro T hT X
  obtain ⟨v, st₀, t, T', LL, h0, X', hL, e1, e2, ⟨hv, hin, -, hW⟩, st⟩ := hr T hT X
  cases hv
  have hal : s.vm.Alike t.vm := by rw [← e2]; exact X'.warmed.alike
  obtain ⟨t2, a1, b1⟩ := kk T'.heap (locs ++ LL) (by rw [e1]; exact zi_W.moved hal.symm hW) hin (fun q hq => by
      rcases List.mem_append.mp hq with h | h
      · exact hlo q h
      · exact hL q h) T' rfl X'
  exact ⟨t2, st t2 a1, b1⟩
theorem zi_callB {r : zi_rec} {d mc ms idx : Nat} (hok : zi_rok r) (hts : ∀ w ∈ zi_tb, w.before args s = true) (hl : (Jvm.Cond.methodLink own idx r.1).before args s = true) (hf : d + 1 ≤ R.frames) (hlc : 38 * (d + 1) ≤ R.locals) :
    CallB R s args own idx r.1 r.2.1 r.2.2.2.2.2.2.1 r.2.2.1 (zi_ws r) (zi_rm d mc ms) mc ms r.2.2.2.1 := by
  obtain ⟨h1, h2, h3, h4, h5, h6⟩ := hok
  exact callB_of (Ts := zi_tb) (ws' := zi_tb) r.2.2.2.1 hts (zi_gin ⟨h1, h2, h3, h4, h5, h6⟩) rfl rfl rfl (hts _ h2) hl ⟨h3, h4, h5⟩ ⟨hf, by show 8 + (_ + 11) + 38 * d ≤ _; omega⟩
theorem zi_callN {r : zi_rec} {d mc ms idx : Nat} {host : String} (hok : zi_rok r) (hts : ∀ w ∈ zi_tb, w.before args s = true) (hl : (Jvm.Cond.methodLinkNest own idx r.1 host).before #[] s = true) (hf : d + 1 ≤ R.frames) (hlc : 38 * (d + 1) ≤ R.locals) :
    va_CN R s args own idx r.1 host r.2.1 r.2.2.2.2.2.2.1 r.2.2.1 (zi_ws r) (zi_rm d mc ms) mc ms r.2.2.2.1 := by
  obtain ⟨h1, h2, h3, h4, h5, h6⟩ := hok
  exact va_cnB (Ts := zi_tb) (ws' := zi_tb) r.2.2.2.1 hts (zi_gin ⟨h1, h2, h3, h4, h5, h6⟩) rfl rfl rfl hl (hts _ h2) ⟨h3, h4, h5⟩ ⟨hf, by show 8 + (_ + 11) + 38 * d ≤ _; omega⟩
/-- a call of a method -/
theorem zi_invoke (C : zi_cx p s m args meth c D cc nL own ini) (hW : zi_W s D base σ H) (hlo : ∀ q ∈ locs, base ≤ q.base) (hLs : L.size = nL) {ins : Instr} {idx a n : Nat} {b : Int} {r : zi_rec} {vs st rest : List zV} {x : Int} {d : Nat}
    (hr : recs[a]? = some r) (hok : zi_rok r) (hp : (ins = .invokestatic idx ∧ n = r.2.2.2.1 ∧ (zi_pm recs own (idx, 2, a, b) ∨ zi_pm recs own (idx, 3, a, b))) ∨ (n = r.2.2.2.1 + 1 ∧ (∃ y vs', vs = .inr (.inr y) :: vs' ∧ ((σ.1 y).1 : Int) = b) ∧ ((ins = .invokevirtual idx ∧ (zi_pm recs own (idx, 4, a, b) ∨ zi_pm recs own (idx, 5, a, b))) ∨ (ins = .invokespecial idx ∧ (zi_pm recs own (idx, 6, a, b) ∨ zi_pm recs own (idx, 7, a, b))))))
    (hst : zi_take n [] st = some (vs, rest)) (hcat : zi_cats rest ≤ 8) (hf : d + 1 ≤ R.frames) (hlc : 38 * (d + 1) ≤ R.locals) (hM : zi_Met l r d vs σ x σ')
    (hcs : cells + (σ'.2.2.2.1 - σ.2.2.2.1).toNat ≤ R.cells ∧ slots + (σ'.2.2.2.2 - σ.2.2.2.2) ≤ R.slots) (hd : decode cc pc = .ok (ins, 3))
    (kk : ∀ (H1 : Heap) (locs1 : List Loc), zi_W s D base σ' H1 → zi_in (zi_mkv r.2.2.2.2.2.2.2 x) → (∀ q ∈ locs1, base ≤ q.base) → W p l e R s m args below meth c H1 locs1 (cells + (σ'.2.2.2.1 - σ.2.2.2.1).toNat) (slots + (σ'.2.2.2.2 - σ.2.2.2.2)) Q (F0 m (pc + 3) L ((zi_push r.2.2.2.2.2.2.2 x rest).map zi_v))) : W p l e R s m args below meth c H locs cells slots Q (F0 m pc L (st.map zi_v)) := by
  obtain ⟨hx, hb, hml, hown, hts, hK, hnw, hini⟩ := C
  have S0 : CallFix p m c cc nL s args zi_tb own := ⟨hx, hb, hml, hown, hts⟩
  obtain ⟨av, e1, e2, e3⟩ := zi_take_spec hst
  rw [List.append_nil] at e1
  subst e1
  have hcat' : (((rest.map zi_v)).map fun v => v.category).sum ≤ 8 := by rw [zi_cats_eq]; exact hcat
  have hpre : ∀ U : State, U.heap = H → s.WarmedH U.vm → zi_Pc D base vs σ (vs.map zi_v).toArray U := fun U hU hWm => ⟨rfl, va_K.moved hWm.alike hK, zi_nw.moved hWm hnw, by rw [hU]; exact zi_W.moved hWm.alike hW⟩
  have kk' : ∀ (H1 : Heap) (locs1 : List Loc), zi_W s D base σ' H1 → zi_in (zi_mkv r.2.2.2.2.2.2.2 x) → (∀ q ∈ locs1, base ≤ q.base) → W p l e R s m args below meth c H1 locs1 (cells + (σ'.2.2.2.1 - σ.2.2.2.1).toNat) (slots + (σ'.2.2.2.2 - σ.2.2.2.2)) Q (F0 m (pc + 3) L ((zi_rv r.2.2.2.2.2.2.2 x).toList ++ rest.map zi_v)) := by
    intro H1 locs1 g1 g2 g3
    rw [zi_push_eq]
    exact kk H1 locs1 g1 g2 g3
  have hstk : st.map zi_v = (vs.map zi_v).reverse ++ rest.map zi_v := by rw [e2]; simp
  rw [hstk]
  rcases hp with ⟨rfl, hn, hp⟩ | ⟨hn, ⟨y, vs', rfl, hyb⟩, hp⟩
  · have hlen : (vs.map zi_v).length = r.2.2.2.1 := by rw [List.length_map, e3, hn]
    rcases hp with ⟨r', hr', hw1, hw2⟩ | ⟨r', host, hr', hw1, hw2⟩
    · have : r' = r := Option.some.inj (hr'.symm.trans hr)
      subst this
      exact zi_ran (va_runS S0 (hM D base) ⟨zi_callB hok hts (hts _ hw1) hf hlc, hts _ hw2⟩ ⟨zi_blind, hpre⟩ rfl hlen hLs rfl (lv_room hcat') hd hcs) hlo kk'
    · have : r' = r := Option.some.inj (hr'.symm.trans hr)
      subst this
      exact zi_ran (va_runSN S0 (hM D base) ⟨zi_callN hok hts (hnw _ hw1 rfl) hf hlc, hts _ hw2, trivial⟩ ⟨zi_blind, hpre⟩ rfl hlen hLs rfl (lv_room hcat') hd hcs) hlo kk'
  · have hlen : (vs'.map zi_v).length = r.2.2.2.1 := by
      rw [List.length_map]
      rw [List.length_cons] at e3
      omega
    have hy : ∀ q : vw_C, vwCl[b.toNat]? = some q → ∃ ad : Nat, zi_v (.inr (.inr y)) = .ref ad ∧ ∃ cellB : Cell, H[ad]? = some cellB ∧ cellB.vm.isStatics = false ∧ s.vm.findClass q.1 = some cellB.cls := by
      intro q hq
      have hk : (σ.1 y).1 = b.toNat := by omega
      obtain ⟨ad, ex, er, -, ⟨cell, q1, q2, q3, -⟩, -⟩ := zi_obj hW hk hq
      exact ⟨ad, zi_vr er, cell, q1, by rw [q3]; rfl, by rw [q2]; exact (hK.1 _ q hq).2.1⟩
    have hst2 : ∀ ad : Nat, zi_v (.inr (.inr y)) = .ref ad → ((.inr (.inr y) :: vs').map zi_v).reverse ++ rest.map zi_v = (vs'.map zi_v).reverse ++ .ref ad :: rest.map zi_v := by
      intro ad h
      rw [List.map_cons, h]
      simp
    have hpre2 : ∀ ad : Nat, zi_v (.inr (.inr y)) = .ref ad → ∀ U : State, U.heap = H → s.WarmedH U.vm → zi_Pc D base (.inr (.inr y) :: vs') σ (Value.ref ad :: vs'.map zi_v).toArray U := by
      intro ad h U hU hWm
      have := hpre U hU hWm
      rw [List.map_cons, h] at this
      exact this
    rcases hp with ⟨rfl, hp⟩ | ⟨rfl, hp⟩
    · rcases hp with ⟨r', q, hr', hq, -, hcl, hw1, hw2, hw3⟩ | ⟨r', q, host, hr', hq, -, hcl, hw1, hw2, hw3⟩
      · have : r' = r := Option.some.inj (hr'.symm.trans hr)
        subst this
        obtain ⟨ad, h1, h2⟩ := hy q hq
        rw [hst2 ad h1]
        exact zi_ran (va_runV (C := q.1) S0 (hM D base) ⟨zi_callB hok hts (hts _ hw1) hf hlc, hts _ hw2, hts _ hw3⟩ ⟨zi_blind, h2, hpre2 ad h1⟩ rfl hlen hLs rfl (lv_room hcat') hd hcs) hlo kk'
      · have : r' = r := Option.some.inj (hr'.symm.trans hr)
        subst this
        obtain ⟨ad, h1, h2⟩ := hy q hq
        rw [hst2 ad h1]
        exact zi_ran (va_runVN (C := q.1) S0 (hM D base) ⟨zi_callN hok hts (hnw _ hw1 rfl) hf hlc, hts _ hw2, hts _ hw3⟩ ⟨zi_blind, h2, hpre2 ad h1⟩ rfl hlen hLs rfl (lv_room hcat') hd hcs) hlo kk'
    · have h12 : 0 ≤ b ∧ b < 12 → ∃ q, vwCl[b.toNat]? = some q := by
        intro h
        have : b.toNat < vwCl.length := by
          show b.toNat < 12
          omega
        exact ⟨_, List.getElem?_eq_getElem this⟩
      rcases hp with ⟨r', hr', hb1, hb2, hnm, hrt, hw1, hw2⟩ | ⟨r', host, hr', hb1, hb2, hnm, hrt, hw1, hw2⟩
      · have : r' = r := Option.some.inj (hr'.symm.trans hr)
        subst this
        obtain ⟨q, hq⟩ := h12 ⟨hb1, hb2⟩
        obtain ⟨ad, h1, h2⟩ := hy q hq
        rw [hst2 ad h1]
        have hB := zi_callB (R := R) (s := s) (args := args) (own := own) (idx := idx) (mc := (σ'.2.2.2.1 - σ.2.2.2.1).toNat) (ms := σ'.2.2.2.2 - σ.2.2.2.2) hok hts (hts _ hw1) hf hlc
        rw [hrt] at hB
        exact zi_ran (va_runI S0 (hM D base) ⟨hB, hnm, hts _ hw2⟩ ⟨zi_blind, hpre2 ad h1⟩ rfl hlen hLs rfl (lv_room hcat') hd hcs) hlo kk'
      · have : r' = r := Option.some.inj (hr'.symm.trans hr)
        subst this
        obtain ⟨q, hq⟩ := h12 ⟨hb1, hb2⟩
        obtain ⟨ad, h1, h2⟩ := hy q hq
        rw [hst2 ad h1]
        have hB := zi_callN (R := R) (s := s) (args := args) (own := own) (idx := idx) (mc := (σ'.2.2.2.1 - σ.2.2.2.1).toNat) (ms := σ'.2.2.2.2 - σ.2.2.2.2) hok hts (hnw _ hw1 rfl) hf hlc
        rw [hrt] at hB
        exact zi_ran (va_runIN S0 (hM D base) ⟨hB, hnm, hts _ hw2⟩ ⟨zi_blind, hpre2 ad h1⟩ rfl hlen hLs rfl (lv_room hcat') hd hcs) hlo kk'
/-- arraycopy -/
theorem zi_copy (C : zi_cx p s m args meth c D cc nL own ini) (hW : zi_W s D base σ H) (hlo : ∀ q ∈ locs, base ≤ q.base) (hLs : L.size = nL) {idx : Nat} {b : Int} (hp : zi_pm recs own (idx, 13, 1005, b)) {x y sp dp n : Int} {rest : List zV} (hcat : zi_cats rest ≤ 8) (hf : 1 ≤ R.frames) (hlc : 38 ≤ R.locals)
    (hkx : (σ.1 x).1 = 12) (hky : (σ.1 y).1 = 12) (h0 : 0 ≤ sp) (h1 : 0 ≤ dp) (h2 : 0 ≤ n) (h3 : sp + n ≤ (σ.1 x).2) (h4 : dp + n ≤ (σ.1 y).2) (hsp : zi_ir sp) (hdp : zi_ir dp) (hn : zi_ir n) (hd : decode cc pc = .ok (.invokestatic idx, 3))
    (kk : ∀ (H1 : Heap) (locs1 : List Loc), zi_W s D base (σ.1, zi_cpy σ.2.1 x y sp dp n, σ.2.2) H1 → (∀ q ∈ locs1, base ≤ q.base) → W p l e R s m args below meth c H1 locs1 cells slots Q (F0 m (pc + 3) L (rest.map zi_v))) :
    W p l e R s m args below meth c H locs cells slots Q (F0 m pc L ([.inl n, .inl dp, .inr (.inr y), .inl sp, .inr (.inr x)].map zi_v ++ rest.map zi_v)) := by
  obtain ⟨hx, hb, hml, hown, hts, hK, hnw, hini⟩ := C
  obtain ⟨hw1, hw2, hw3, hw4⟩ : Jvm.Cond.methodLink own idx arraycopyName ∈ zi_tb ∧ Jvm.Cond.native arraycopyName ∈ zi_tb ∧ Jvm.Cond.static arraycopyName ∈ zi_tb ∧ Jvm.Cond.initialized "java/lang/System" ∈ zi_tb := by
    rcases hp with ⟨h, -⟩ | ⟨h, -⟩ | ⟨h, -⟩ | ⟨h, -⟩ | ⟨-, h⟩
    · cases h
    · cases h
    · cases h
    · cases h
    · exact h
  obtain ⟨ax, ex, er, hbx, -, -, ⟨cx, a1, a2, a3⟩, a4⟩ := zi_arr hW hkx (ty := .int) rfl
  obtain ⟨ay, ey, fr, hby, -, -, ⟨cy, b1, b2, b3⟩, b4⟩ := zi_arr hW hky (ty := .int) rfl
  have tn : ∀ z : Int, zi_ir z → 0 ≤ z → (Int32.ofInt z).toNatClampNeg = z.toNat := by
    intro z hz h
    show (Int32.ofInt z).toInt.toNat = _
    rw [zi_oi' hz]
  have ng : ∀ z : Int, zi_ir z → 0 ≤ z → ¬ Int32.ofInt z < 0 := by
    intro z hz h
    rw [zi_z, zi_lt hz zi_ir0]; omega
  show W p l e R s m args below meth c H locs cells slots Q (F0 m pc L (.int (Int32.ofInt n) :: .int (Int32.ofInt dp) :: zi_v (.inr (.inr y)) :: .int (Int32.ofInt sp) :: zi_v (.inr (.inr x)) :: rest.map zi_v))
  rw [zi_vr er, zi_vr fr]
  have hcat' : (((rest.map zi_v)).map fun v => v.category).sum ≤ 8 := by rw [zi_cats_eq]; exact hcat
  have hnf : nativeFrameWords "java/lang/System" "arraycopy" 5 = 7 := by decide
  have hnz : ∀ z : Int, zi_ir z → 0 ≤ z → (Int32.ofInt z).toInt = z := fun z hz _ => zi_oi' hz
  have hlt := (Array.getElem?_eq_some_iff.mp b3).1
  intro T hT X
  obtain ⟨-, k0, hk0, cm0, hkk0⟩ := a1 (σ.1 x).2.toNat (fun j => zi_v (zi_mkv (zi_et 12) (σ.2.1 x j)))
  obtain ⟨-, k1, hk1, cm1, hkk1⟩ := b1 (σ.1 y).2.toNat (fun j => zi_v (zi_mkv (zi_et 12) (σ.2.1 y j)))
  obtain ⟨vm', X', step⟩ := X.arraycopy hx hown (hts _ hw1) (hts _ hw2) (hts _ hw3) (hts _ hw4) (src := ax) (dst := ay) (cs := arrV cx (σ.1 x).2.toNat (fun j => zi_v (zi_mkv (zi_et 12) (σ.2.1 x j)))) (cd := arrV cy (σ.1 y).2.toNat (fun j => zi_v (zi_mkv (zi_et 12) (σ.2.1 y j)))) (srcPos := Int32.ofInt sp) (destPos := Int32.ofInt dp) (n := Int32.ofInt n) (by rw [hT]; exact a3) (by rw [hT]; exact b3)
    (fun _ h => by cases h) (fun _ h => by cases h) (fun h => by cases h) (fun h => by cases h) hk0 hk1 hkk0 hkk1 (by simp [refKind]) (ng _ hsp h0) (ng _ hdp h1) (ng _ hn h2)
    (by rw [hnz _ hsp h0, hnz _ hn h2, arrV_size]; omega)
    (by rw [hnz _ hdp h1, hnz _ hn h2, arrV_size]; omega)
    (fun vm₁ _ i hi => by
      rw [tn _ hn h2] at hi
      have e : (arrV cx (σ.1 x).2.toNat (fun j => zi_v (zi_mkv (zi_et 12) (σ.2.1 x j)))).slots.getD ((Int32.ofInt sp).toNatClampNeg + i) .null = .int (Int32.ofInt (σ.2.1 x ((Int32.ofInt sp).toNatClampNeg + i : Nat))) := by
        rw [Array.getD_eq_getD_getElem?, arrV_read _ _ (by rw [tn _ hsp h0]; omega)]
        rfl
      rw [e]
      exact ⟨rfl, trivial⟩)
    (g := F0 m pc L (.int (Int32.ofInt n) :: .int (Int32.ofInt dp) :: .ref ay :: .int (Int32.ofInt sp) :: .ref ax :: rest.map zi_v)) rfl (by rw [hml]; exact hLs) (rest := rest.map zi_v) rfl (by rw [hb]; exact hd) hf (by show 2 * 0 + _ + _ ≤ _; rw [hnf]; omega)
  have e1 : copied (arrV cx (σ.1 x).2.toNat (fun j => zi_v (zi_mkv (zi_et 12) (σ.2.1 x j)))) (arrV cy (σ.1 y).2.toNat (fun j => zi_v (zi_mkv (zi_et 12) (σ.2.1 y j)))) (Int32.ofInt sp) (Int32.ofInt dp) (Int32.ofInt n) = arrV cy (σ.1 y).2.toNat (fun j => zi_v (zi_mkv (zi_et 12) (zi_cpy σ.2.1 x y sp dp n y j))) := by
    refine (va_copied (fun z => .int z) cx cy (fun j => Int32.ofInt (σ.2.1 x j)) (fun j => Int32.ofInt (σ.2.1 y j)) (by rw [tn _ hsp h0, tn _ hn h2]; omega)).trans ?_
    show arrV _ _ _ = arrV _ _ _
    congr 1
    funext j
    show Value.int (va_cpy _ _ _ _ _ j) = Value.int (Int32.ofInt (zi_cpy σ.2.1 x y sp dp n y j))
    unfold va_cpy zi_cpy
    rw [tn _ hsp h0, tn _ hn h2, tn _ hdp h1]
    by_cases hj : dp.toNat ≤ j ∧ j < dp.toNat + n.toNat
    · rw [if_pos hj, if_pos ⟨rfl, by omega, by omega⟩]
      have e5 : ((sp.toNat + (j - dp.toNat) : Nat) : Int) = sp + ((j : Int) - dp) := by omega
      rw [← e5]
    · rw [if_neg hj, if_neg (fun q => hj ⟨by omega, by omega⟩)]
  rw [e1] at X' step
  have hheap : ((T.setVm vm').setCell ay (arrV cy (σ.1 y).2.toNat (fun j => zi_v (zi_mkv (zi_et 12) (zi_cpy σ.2.1 x y sp dp n y j))))).heap = H.setIfInBounds ay (arrV cy (σ.1 y).2.toNat (fun j => zi_v (zi_mkv (zi_et 12) (zi_cpy σ.2.1 x y sp dp n y j)))) := by rw [← hT]; rfl
  obtain ⟨t, g1, g2⟩ := kk _ _ (zi_W_arr (ty := .int) (σ' := (σ.1, zi_cpy σ.2.1 x y sp dp n, σ.2.2)) (H1 := H.setIfInBounds ay (arrV cy (σ.1 y).2.toNat (fun j => zi_v (zi_mkv (zi_et 12) (zi_cpy σ.2.1 x y sp dp n y j))))) hW ey (by rw [hky]; rfl) ⟨rfl, rfl, fun z j hz => ⟨by show zi_cpy σ.2.1 x y sp dp n z j = _; unfold zi_cpy; rw [if_neg (fun q => hz q.1)], rfl⟩⟩ (by
      intro j hj
      rw [hky]
      show zi_ir (zi_cpy σ.2.1 x y sp dp n y j)
      unfold zi_cpy
      by_cases hc : y = y ∧ dp ≤ j ∧ (j : Int) < dp + n
      · rw [if_pos hc]
        have := a4 (sp + (j - dp)).toNat (by omega)
        rw [show (((sp + (j - dp)).toNat : Nat) : Int) = sp + (j - dp) by omega] at this
        exact this
      · rw [if_neg hc]
        exact b4 j hj) (by
      intro cB hB
      rw [hky] at hB ⊢
      have hcc : arrV cy (σ.1 y).2.toNat (fun j => zi_v (zi_mkv (zi_et 12) (σ.2.1 y j))) = arrV cB (σ.1 y).2.toNat (fun j => zi_v (zi_mkv (zi_et 12) (σ.2.1 y j))) := Option.some.inj (b3.symm.trans hB)
      have hcB : cy = cB := congrArg Cell.cls hcc
      rw [← hcB]
      rw [Array.getElem?_setIfInBounds, if_pos rfl, if_pos hlt]
      rfl) (by simp) (fun b hb => by simp [Array.getElem?_setIfInBounds, Ne.symm hb])) (fun q hq => by
      rcases List.mem_append.mp hq with h | h
      · exact hlo q h
      · obtain ⟨z, -, hz⟩ := List.mem_map.mp h
        rw [← hz]
        exact hby) _ hheap X'
  exact ⟨t, step t g1, g2⟩
end ZC
end
section
/-! what the small machine does, the machine does -/
def zi_len (i : Instr) (b : Int) : Nat := match i with
  | .tableswitch _ _ _ _ => b.toNat
  | .lookupswitch _ _ => b.toNat
  | .bipush _ => 2
  | .iload _ => 2
  | .lload _ => 2
  | .aload _ => 2
  | .istore _ => 2
  | .lstore _ => 2
  | .astore _ => 2
  | .newarray _ => 2
  | .sipush _ => 3
  | .ldc_w _ => 3
  | .ldc2_w _ => 3
  | .iinc _ _ => 3
  | .ifCond _ _ => 3
  | .if_icmp _ _ => 3
  | .ifnull _ => 3
  | .ifnonnull _ => 3
  | .goto _ => 3
  | .getfield _ => 3
  | .putfield _ => 3
  | .new _ => 3
  | .anewarray _ => 3
  | .invokestatic _ => 3
  | .invokevirtual _ => 3
  | .invokespecial _ => 3
  | _ => 1
def zi_ck (nps : List (Nat × Nat)) (own : String) (pl : List (Nat × Nat × Nat × Int)) (ini : Bool) (cl : zC) : Bool :=
  let pc := cl.1; let a := cl.2.2.1; let b := cl.2.2.2.1; let sw := cl.2.2.2.2
  match cl.2.1 with
  | .iconst n => decide ((Int32.ofInt n).toInt = b)
  | .bipush n => decide ((Int8.ofInt n).toInt32.toInt = b)
  | .sipush n => decide ((Int16.ofInt n).toInt32.toInt = b)
  | .ldc_w i => decide ((i, 10, 0, b) ∈ pl)
  | .lconst n => decide ((Int64.ofNat (n : Nat)).toInt = b)
  | .ldc2_w i => decide ((i, 11, 0, b) ∈ pl)
  | .iload_n k => Nat.beq (k : Nat) a
  | .lload_n k => Nat.beq (k : Nat) a
  | .aload_n k => Nat.beq (k : Nat) a
  | .istore_n k => Nat.beq (k : Nat) a
  | .lstore_n k => Nat.beq (k : Nat) a
  | .astore_n k => Nat.beq (k : Nat) a
  | .iload k => Nat.beq k a
  | .lload k => Nat.beq k a
  | .aload k => Nat.beq k a
  | .istore k => Nat.beq k a
  | .lstore k => Nat.beq k a
  | .astore k => Nat.beq k a
  | .iinc i n => Nat.beq i a && decide (n = b ∧ -32768 ≤ n ∧ n ≤ 32767)
  | .goto off => decide ((pc : Int) + off = (a : Int))
  | .ifCond _ off => decide ((pc : Int) + off = (a : Int))
  | .if_icmp _ off => decide ((pc : Int) + off = (a : Int))
  | .ifnull off => decide ((pc : Int) + off = (a : Int))
  | .ifnonnull off => decide ((pc : Int) + off = (a : Int))
  | .tableswitch d lo hi offs => decide ((pc : Int) + d = (a : Int) ∧ lo ≤ hi ∧ (offs.size : Int) = hi - lo + 1 ∧ sw = (List.range offs.size).map (fun i : Nat => (lo + (i : Int), ((pc : Int) + offs.getD i 0).toNat)) ∧ ∀ o ∈ offs.toList, 0 ≤ (pc : Int) + o)
  | .lookupswitch d ps => decide ((pc : Int) + d = (a : Int) ∧ sw = ps.toList.map (fun q => (q.1, ((pc : Int) + q.2).toNat)) ∧ (∀ q ∈ ps.toList, 0 ≤ (pc : Int) + q.2)) && (ps.toList.zip (ps.toList.drop 1)).all (fun (x, next) => decide (x.1 < next.1))
  | .getfield i => decide ((i, 0, a, b) ∈ pl ∨ (i, 1, a, b) ∈ pl)
  | .putfield i => decide ((i, 0, a, b) ∈ pl ∨ (i, 1, a, b) ∈ pl) && (match vwCl[a]? with
    | some q => !(q.2.1 b.toNat).2.2.2 || (ini && decide (q.1 = own) && decide ((i, 0, a, b) ∈ pl))
    | none => false)
  | .iaload => Nat.beq a 12 || Nat.beq a 18
  | .aaload => Nat.ble 14 a && Nat.ble a 17
  | .aastore => Nat.ble 14 a && Nat.ble a 17 && decide (0 ≤ b) && (match vwCl[b.toNat]? with
    | some q => decide (zi_ak a = some (.object q.1))
    | none => false)
  | .arraylength => Nat.ble 12 a && Nat.ble a 18
  | .newarray t => decide (t = .int ∧ a = 12 ∨ t = .boolean ∧ a = 13)
  | .anewarray i => decide ((i, 9, a, 0) ∈ pl)
  | .new i => decide ((i, 8, a, b) ∈ pl)
  | .invokestatic i => (decide ((i, 2, a, b) ∈ pl ∨ (i, 3, a, b) ∈ pl) && Nat.blt a 1000 && (match nps[a]? with
      | some q => decide (sw = [((q.1 : Int), q.2)])
      | none => false)) || (decide ((i, 13, a, b) ∈ pl) && decide (sw = (if a = 1001 ∨ a = 1002 then [(2, 1)] else if a = 1003 ∨ a = 1004 then [(2, 4)] else [(5, 0)])))
  | .invokevirtual i => decide ((i, 4, a, b) ∈ pl ∨ (i, 5, a, b) ∈ pl) && Nat.blt a 1000 && (match nps[a]? with
      | some q => decide (sw = [((q.1 : Int) + 1, q.2)])
      | none => false)
  | .invokespecial i => (decide ((i, 6, a, b) ∈ pl ∨ (i, 7, a, b) ∈ pl) && Nat.blt a 1000 && (match nps[a]? with
      | some q => decide (sw = [((q.1 : Int) + 1, q.2)])
      | none => false)) || (decide ((i, 12, a, b) ∈ pl) && decide (a = 1000 ∧ sw = [(1, 0)]))
  | _ => true
theorem zi_find_mem : ∀ {code : List zC} {pc : Nat} {x : Instr × Nat × Int × List (Int × Nat)}, zi_find code pc = some x → (pc, x) ∈ code
  | [], _, _, h => by cases h
  | cl :: r, pc, x, h => by
    unfold zi_find at h
    cases hb : Nat.beq cl.1 pc with
    | true =>
      rw [hb] at h
      have h1 := Nat.eq_of_beq_eq_true hb
      cases h
      subst h1
      exact List.mem_cons_self
    | false =>
      rw [hb] at h
      exact List.mem_cons_of_mem _ (zi_find_mem h)
theorem zi_sw_cases {K : Nat → zR} {res : Int × zM} : ∀ {sw : List (Int × Nat)} {d : Nat} {x : Int}, zi_sw sw d x K = some res → (∃ q ∈ sw, x = q.1 ∧ K q.2 = some res) ∨ ((∀ q ∈ sw, x ≠ q.1) ∧ K d = some res)
  | [], d, x, h => Or.inr ⟨fun q hq => absurd hq List.not_mem_nil, h⟩
  | q :: r, d, x, h => by
    unfold zi_sw at h
    by_cases hx : x = q.1
    · rw [if_pos hx] at h
      exact Or.inl ⟨q, List.mem_cons_self, hx, h⟩
    · rw [if_neg hx] at h
      rcases zi_sw_cases h with ⟨z, h1, h2⟩ | ⟨h1, h2⟩
      · exact Or.inl ⟨z, List.mem_cons_of_mem _ h1, h2⟩
      · exact Or.inr ⟨fun z hz => by
          rcases List.mem_cons.mp hz with h3 | h3
          · rw [h3]; exact hx
          · exact h1 z h3, h2⟩
def zi_lq (σ : zM) (res : Int × zM) : Prop := σ.2.2.2.1 ≤ res.2.2.2.2.1 ∧ σ.2.2.2.2 ≤ res.2.2.2.2.2
theorem zi_lq_new {σ : zM} {res : Int × zM} {k : Nat} {n : Int} {sl : Nat} (h : zi_lq (zi_new σ k n sl) res) : zi_lq σ res ∧ σ.2.2.2.1 + 1 ≤ res.2.2.2.2.1 ∧ σ.2.2.2.2 + sl ≤ res.2.2.2.2.2 := by
  obtain ⟨h1, h2⟩ := h
  change σ.2.2.2.1 + 1 ≤ _ at h1
  change σ.2.2.2.2 + sl ≤ _ at h2
  exact ⟨⟨by omega, by omega⟩, h1, h2⟩
theorem zi_lq_refl (x : Int) (σ : zM) : zi_lq σ (x, σ) := ⟨Int.le_refl _, Nat.le_refl _⟩
theorem zi_if_cases {c : Jvm.ClassFile.Cond} {x y : Int} {A B : zR} {res : Int × zM} (h : zi_if c x y A B = some res) : A = some res ∨ B = some res := by
  unfold zi_if at h
  split at h <;> split at h <;> first | exact Or.inl h | exact Or.inr h
theorem zi_bind_cases {A : zR} {f : Int × zM → zR} {res : Int × zM} (h : A.bind f = some res) : ∃ x σ', A = some (x, σ') ∧ f (x, σ') = some res := by
  cases A with
  | none => cases h
  | some q => exact ⟨q.1, q.2, rfl, h⟩
set_option maxHeartbeats 4000000 in
theorem zi_ex_le {t : zT} {G : Nat → List zV → zM → zR} {nx : Nat → zL → List zV → zM → zR} {pc : Nat} {ls : zL} {st : List zV} {σ : zM} {res : Int × zM}
    (HGm : ∀ a vs σ x σ', G a vs σ = some (x, σ') → zi_lq σ (x, σ')) (Hm : ∀ pc' ls' st' σ', nx pc' ls' st' σ' = some res → zi_lq σ' res) (h : zi_ex t G nx pc ls st σ = some res) : zi_lq σ res := by
  have hcall : ∀ a vs rk r, ((G a vs σ).bind fun q => nx (pc + 3) ls (zi_push rk q.1 r) q.2) = some res → zi_lq σ res := by
    intro a vs rk r h
    obtain ⟨x, σ', h1, h2⟩ := zi_bind_cases h
    have h3 := HGm _ _ _ _ _ h1
    have h4 := Hm _ _ _ _ h2
    exact ⟨Int.le_trans h3.1 h4.1, Nat.le_trans h3.2 h4.2⟩
  unfold zi_ex at h
  split at h
  · cases h
  · split at h
    all_goals try (exact Hm _ _ _ _ h)
    all_goals try (cases h; done)
    all_goals (repeat' (split at h))
    all_goals try (cases h; done)
    all_goals try (exact Hm _ _ _ _ h)
    all_goals try (exact (zi_lq_new (Hm _ _ _ _ h)).1)
    all_goals try (rcases zi_if_cases h with h | h <;> exact Hm _ _ _ _ h)
    all_goals try (rcases zi_sw_cases h with ⟨q, -, -, h⟩ | ⟨-, h⟩ <;> exact Hm _ _ _ _ h)
    all_goals try (cases h; exact zi_lq_refl _ _)
    all_goals try (have h5 := Hm _ _ _ _ h; exact h5)
    all_goals (simp only [cond_eq_ite] at h)
    all_goals (repeat' (split at h))
    all_goals try (cases h; done)
    all_goals try (exact Hm _ _ _ _ h)
    all_goals exact hcall _ _ _ _ h
def zi_I (s : State) (D : va_G) (base : Nat) (σ0 σ : zM) (H : Heap) (locs : List Loc) (cells slots : Nat) : Prop := zi_W s D base σ H ∧ (∀ q ∈ locs, base ≤ q.base) ∧ cells = (σ.2.2.2.1 - σ0.2.2.2.1).toNat ∧ slots = σ.2.2.2.2 - σ0.2.2.2.2 ∧ σ0.2.2.2.1 ≤ σ.2.2.2.1 ∧ σ0.2.2.2.2 ≤ σ.2.2.2.2
def zi_endok (rk : Nat) (ins : Instr) (st : List zV) (x : Int) : Prop := (ins = .ireturn ∧ st = [.inl x] ∧ (rk = 1 ∨ (rk = 2 ∧ (x = 0 ∨ x = 1)))) ∨ (ins = .areturn ∧ st = [.inr (.inr x)] ∧ rk = 3) ∨ (ins = .return_ ∧ st = [] ∧ x = 0 ∧ rk = 0)
theorem zi_Ist {s : State} {D : va_G} {base : Nat} {σ0 σ : zM} {H H1 : Heap} {locs locs1 : List Loc} {cells slots : Nat} {σ1 : zM} (h : zi_I s D base σ0 σ H locs cells slots) (he : σ1.2.2.2 = σ.2.2.2) (hW : zi_W s D base σ1 H1) (hlo : ∀ q ∈ locs1, base ≤ q.base) : zi_I s D base σ0 σ1 H1 locs1 cells slots := ⟨hW, hlo, by rw [he]; exact h.2.2.1, by rw [he]; exact h.2.2.2.1, by rw [he]; exact h.2.2.2.2.1, by rw [he]; exact h.2.2.2.2.2⟩
theorem zi_sum {t0 t1 t2 t3 : Int} {n0 n1 n2 n3 c k X Y : Nat} (hc : c = (t1 - t0).toNat) (hk : k = n1 - n0) (h0 : t0 ≤ t1) (g0 : n0 ≤ n1) (h1 : t1 ≤ t2) (g1 : n1 ≤ n2) (h2 : t2 ≤ t3) (g2 : n2 ≤ n3) (hX : (t3 - t0).toNat ≤ X) (hY : n3 - n0 ≤ Y) : (c + (t2 - t1).toNat ≤ X ∧ k + (n2 - n1) ≤ Y) ∧ c + (t2 - t1).toNat = (t2 - t0).toNat ∧ k + (n2 - n1) = n2 - n0 ∧ t0 ≤ t2 ∧ n0 ≤ n2 := by omega
section ZS
variable {p : Program} {l : Launch} {e : Env} {R : Room} {s : State} {m : MethodId} {args : Array Value} {below : List Frame} {meth : Method} {c : Code} {H : Heap} {locs : List Loc} {cells slots : Nat} {Q : State → Prop} {D : va_G} {cc : ByteArray} {nL : Nat} {own : String} {ini : Bool} {base : Nat} {σ0 σ : zM} {recs : List zi_rec} {pc : Nat} {L : Array Slot}
def zi_G1 (l : Launch) (R : Room) (recs : List zi_rec) (G : Nat → List zV → zM → zR) : Prop := ∀ a vs σ x σ', a < 1000 → G a vs σ = some (x, σ') → (∀ v ∈ vs, zi_in v) → ∃ (r : zi_rec) (d : Nat), recs[a]? = some r ∧ zi_rok r ∧ d + 1 ≤ R.frames ∧ 38 * (d + 1) ≤ R.locals ∧ zi_Met l r d vs σ x σ'
def zi_G2 (R : Room) (G : Nat → List zV → zM → zR) : Prop := ∀ a vs σ x σ', 1000 ≤ a → G a vs σ = some (x, σ') → zi_nat a vs σ = some (x, σ') ∧ 1 ≤ R.frames ∧ 38 ≤ R.locals
def zi_G3 (G : Nat → List zV → zM → zR) : Prop := ∀ a vs σ x σ', G a vs σ = some (x, σ') → zi_lq σ (x, σ')
set_option maxHeartbeats 4000000 in
theorem zi_inv {G : Nat → List zV → zM → zR} {nx : Nat → zL → List zV → zM → zR} {ls : zL} {st rest vs : List zV} {res : Int × zM} {ins : Instr} {idx a n rk : Nat} {b : Int} {nps : List (Nat × Nat)} {q : Nat × Nat}
    (C : zi_cx p s m args meth c D cc nL own ini) (hnp : ∀ (a : Nat) (r : zi_rec) (q : Nat × Nat), recs[a]? = some r → nps[a]? = some q → q = (r.2.2.2.1, r.2.2.2.2.2.2.2)) (HG1 : zi_G1 l R recs G) (HG3 : zi_G3 G) (hroom : (res.2.2.2.2.1 - σ0.2.2.2.1).toNat ≤ R.cells ∧ res.2.2.2.2.2 - σ0.2.2.2.2 ≤ R.slots)
    (Hm : ∀ pc' ls' st' σ', nx pc' ls' st' σ' = some res → zi_lq σ' res)
    (Hnx : ∀ pc' ls' st' σ' L' H' locs' cells' slots', zi_lr ls' nL L' → (∀ v ∈ st', zi_in v) → zi_I s D base σ0 σ' H' locs' cells' slots' → nx pc' ls' st' σ' = some res → W p l e R s m args below meth c H' locs' cells' slots' Q (F0 m pc' L' (st'.map zi_v)))
    (I : zi_I s D base σ0 σ H locs cells slots) (hl : zi_lr ls nL L) (hst : ∀ v ∈ st, zi_in v) (ha : a < 1000) (hq : nps[a]? = some q) (hrk : rk = q.2)
    (hp : (ins = .invokestatic idx ∧ n = q.1 ∧ (zi_pm recs own (idx, 2, a, b) ∨ zi_pm recs own (idx, 3, a, b))) ∨ (n = q.1 + 1 ∧ (∃ y vs', vs = .inr (.inr y) :: vs' ∧ ((σ.1 y).1 : Int) = b) ∧ ((ins = .invokevirtual idx ∧ (zi_pm recs own (idx, 4, a, b) ∨ zi_pm recs own (idx, 5, a, b))) ∨ (ins = .invokespecial idx ∧ (zi_pm recs own (idx, 6, a, b) ∨ zi_pm recs own (idx, 7, a, b))))))
    (htk : zi_take n [] st = some (vs, rest)) (hcat : Nat.ble (zi_cats rest) 8 = true) (hd : decode cc pc = .ok (ins, 3))
    (h : ((G a vs σ).bind fun q => nx (pc + 3) ls (zi_push rk q.1 rest) q.2) = some res) : W p l e R s m args below meth c H locs cells slots Q (F0 m pc L (st.map zi_v)) := by
  obtain ⟨x, σ', h1, h2⟩ := zi_bind_cases h
  obtain ⟨av, e1, e2, e3⟩ := zi_take_spec htk
  rw [List.append_nil] at e1
  have hvs : ∀ v ∈ vs, zi_in v := fun v hv => hst v (by rw [e2]; exact List.mem_append_left _ (List.mem_reverse.mpr (by rw [← e1]; exact hv)))
  have hrs : ∀ v ∈ rest, zi_in v := fun v hv => hst v (by rw [e2]; exact List.mem_append_right _ hv)
  obtain ⟨r, d, hr, hok, hf, hlc, hM⟩ := HG1 _ _ _ _ _ ha h1 hvs
  have hqr := hnp a r q hr hq
  subst hqr
  have g1 := HG3 _ _ _ _ _ h1
  have g2 := Hm _ _ _ _ h2
  obtain ⟨hW, hlo, hc, hs, hb1, hb2⟩ := I
  change σ.2.2.2.1 ≤ σ'.2.2.2.1 ∧ σ.2.2.2.2 ≤ σ'.2.2.2.2 at g1
  change σ'.2.2.2.1 ≤ res.2.2.2.2.1 ∧ σ'.2.2.2.2 ≤ res.2.2.2.2.2 at g2
  have hsum := zi_sum hc hs hb1 hb2 g1.1 g1.2 g2.1 g2.2 hroom.1 hroom.2
  refine zi_invoke C hW hlo hl.2.1 hr hok hp htk (Nat.le_of_ble_eq_true hcat) hf hlc hM hsum.1 hd fun H1 locs1 k1 k2 k3 => ?_
  rw [hrk] at h2
  exact Hnx _ _ _ _ _ _ _ _ _ hl (zi_push_in k2 hrs) ⟨k1, k3, hsum.2⟩ h2
end ZS
end
section
/-! each instruction -/
theorem zi_nat0 {vs : List zV} {σ σ' : zM} {r : Int} (h : zi_nat 1000 vs σ = some (r, σ')) : (∃ y, vs = [.inr (.inr y)]) ∧ r = 0 ∧ σ' = σ := by
  unfold zi_nat at h
  split at h <;> simp_all
theorem zi_nat1 {vs : List zV} {σ σ' : zM} {r : Int} (h : zi_nat 1001 vs σ = some (r, σ')) : ∃ x y, vs = [.inl x, .inl y] ∧ r = (if x < y then y else x) ∧ σ' = σ := by
  unfold zi_nat at h
  split at h <;> simp_all
theorem zi_nat2 {vs : List zV} {σ σ' : zM} {r : Int} (h : zi_nat 1002 vs σ = some (r, σ')) : ∃ x y, vs = [.inl x, .inl y] ∧ r = (if y < x then y else x) ∧ σ' = σ := by
  unfold zi_nat at h
  split at h <;> simp_all
theorem zi_nat3 {vs : List zV} {σ σ' : zM} {r : Int} (h : zi_nat 1003 vs σ = some (r, σ')) : ∃ x y, vs = [.inr (.inl x), .inr (.inl y)] ∧ r = (if y < x then x else y) ∧ σ' = σ := by
  unfold zi_nat at h
  split at h <;> simp_all
theorem zi_nat4 {vs : List zV} {σ σ' : zM} {r : Int} (h : zi_nat 1004 vs σ = some (r, σ')) : ∃ x y, vs = [.inr (.inl x), .inr (.inl y)] ∧ r = (if y < x then y else x) ∧ σ' = σ := by
  unfold zi_nat at h
  split at h <;> simp_all
theorem zi_nat5 {vs : List zV} {σ σ' : zM} {r : Int} (h : zi_nat 1005 vs σ = some (r, σ')) : ∃ p s q d n, vs = [.inr (.inr p), .inl s, .inr (.inr q), .inl d, .inl n] ∧ (((σ.1 p).1 = 12 ∧ (σ.1 q).1 = 12) ∧ 0 ≤ s ∧ 0 ≤ d ∧ 0 ≤ n ∧ s + n ≤ (σ.1 p).2 ∧ d + n ≤ (σ.1 q).2) ∧ r = 0 ∧ σ' = (σ.1, zi_cpy σ.2.1 p q s d n, σ.2.2) := by
  unfold zi_nat at h
  split at h
  all_goals try (simp_all; done)
  rename_i p s q d n _
  split at h
  · rename_i hc
    cases h
    exact ⟨p, s, q, d, n, rfl, hc, rfl, rfl⟩
  · cases h
theorem zi_null {x : Int} (h : zi_ro x = none) : zi_v (.inr (.inr x)) = .null := by
  show va_rf (zi_ro x) = _
  rw [h]; rfl
theorem zi_ro0 {x : Int} (h : 0 ≤ x) : zi_ro x = none ↔ x = 0 := by
  unfold zi_ro
  by_cases hx : x ≤ 0
  · rw [if_pos hx]; constructor
    · intro; omega
    · intro; rfl
  · rw [if_neg hx]; constructor
    · intro q; cases q
    · intro; omega
theorem zi_ir1 : zi_ir 1 := by unfold zi_ir; omega
section ZX
variable {p : Program} {l : Launch} {e : Env} {R : Room} {s : State} {m : MethodId} {args : Array Value} {below : List Frame} {meth : Method} {c : Code} {H : Heap} {locs : List Loc} {cells slots : Nat} {Q : State → Prop} {D : va_G} {cc : ByteArray} {nL : Nat} {own : String} {ini : Bool} {base : Nat} {σ0 σ : zM} {recs : List zi_rec} {pc : Nat} {L : Array Slot}
set_option maxHeartbeats 8000000 in
set_option maxRecDepth 10000 in
theorem zi_ex_ok {t : zT} {G : Nat → List zV → zM → zR} {nx : Nat → zL → List zV → zM → zR} {ls : zL} {st : List zV} {res : Int × zM} {nps : List (Nat × Nat)} {pl : List (Nat × Nat × Nat × Int)}
    (C : zi_cx p s m args meth c D cc nL own ini) (hpl : ∀ e ∈ pl, zi_pm recs own e) (hnp : ∀ (a : Nat) (r : zi_rec) (q : Nat × Nat), recs[a]? = some r → nps[a]? = some q → q = (r.2.2.2.1, r.2.2.2.2.2.2.2)) (hwd : Jvm.Cond.arrayClass .int ∈ zi_tb ∧ Jvm.Cond.arrayClass .boolean ∈ zi_tb)
    (hck : ∀ cl ∈ t.1, decode cc cl.1 = .ok (cl.2.1, zi_len cl.2.1 cl.2.2.2.1) ∧ zi_ck nps own pl ini cl = true)
    (HG1 : zi_G1 l R recs G) (HG2 : zi_G2 R G) (HG3 : zi_G3 G) (hroom : (res.2.2.2.2.1 - σ0.2.2.2.1).toNat ≤ R.cells ∧ res.2.2.2.2.2 - σ0.2.2.2.2 ≤ R.slots)
    (Hm : ∀ pc' ls' st' σ', nx pc' ls' st' σ' = some res → zi_lq σ' res)
    (Hnx : ∀ pc' ls' st' σ' L' H' locs' cells' slots', zi_lr ls' nL L' → (∀ v ∈ st', zi_in v) → zi_I s D base σ0 σ' H' locs' cells' slots' → nx pc' ls' st' σ' = some res → W p l e R s m args below meth c H' locs' cells' slots' Q (F0 m pc' L' (st'.map zi_v)))
    (Hend : ∀ ins, decode cc pc = .ok (ins, 1) → zi_endok t.2.2.2 ins st res.1 → σ = res.2 → W p l e R s m args below meth c H locs cells slots Q (F0 m pc L (st.map zi_v)))
    (I : zi_I s D base σ0 σ H locs cells slots) (hl : zi_lr ls nL L) (hst : ∀ v ∈ st, zi_in v) (h : zi_ex t G nx pc ls st σ = some res) : W p l e R s m args below meth c H locs cells slots Q (F0 m pc L (st.map zi_v)) := by
  have hx := C.1
  have hb := C.2.1
  have hown := C.2.2.2.1
  have hts := C.2.2.2.2.1
  have go : ∀ pc' st', nx pc' ls st' σ = some res → (∀ v ∈ st', zi_in v) → W p l e R s m args below meth c H locs cells slots Q (F0 m pc' L (st'.map zi_v)) := fun pc' st' h2 h1 => Hnx _ _ _ _ _ _ _ _ _ hl h1 I h2
  have cons : ∀ {v : zV} {r : List zV}, zi_in v → (∀ w ∈ r, zi_in w) → ∀ w ∈ v :: r, zi_in w := fun h1 h2 => List.forall_mem_cons.mpr ⟨h1, h2⟩
  have mem : ∀ (σ1 : zM) (H1 : Heap) (locs1 : List Loc) pc' st', zi_W s D base σ1 H1 → (∀ q ∈ locs1, base ≤ q.base) → (∀ v ∈ st', zi_in v) → σ1.2.2.2 = σ.2.2.2 → nx pc' ls st' σ1 = some res → W p l e R s m args below meth c H1 locs1 cells slots Q (F0 m pc' L (st'.map zi_v)) := fun σ1 H1 locs1 pc' st' h1 h2 h3 he h4 => Hnx _ _ _ _ _ _ _ _ _ hl h3 (zi_Ist I he h1 h2) h4
  have made : ∀ (k : Nat) (n : Int) (sl : Nat) pc' st', nx pc' ls st' (zi_new σ k n sl) = some res → (∀ v ∈ st', zi_in v) → cells + 1 ≤ R.cells ∧ slots + sl ≤ R.slots ∧ ∀ H1, zi_W s D base (zi_new σ k n sl) H1 → W p l e R s m args below meth c H1 locs (cells + 1) (slots + sl) Q (F0 m pc' L (st'.map zi_v)) := by
    intro k n sl pc' st' h1 h2
    obtain ⟨-, h3, h4⟩ := zi_lq_new (Hm _ _ _ _ h1)
    obtain ⟨i1, i2, i3, i4, i5, i6⟩ := id I
    refine ⟨by omega, by omega, fun H1 hW => Hnx _ _ _ _ _ _ _ _ _ hl h2 ⟨hW, i2, ?_, ?_, ?_, ?_⟩ h1⟩
    · show cells + 1 = (σ.2.2.2.1 + 1 - σ0.2.2.2.1).toNat
      omega
    · show slots + sl = σ.2.2.2.2 + sl - σ0.2.2.2.2
      omega
    · show σ0.2.2.2.1 ≤ σ.2.2.2.1 + 1
      omega
    · show σ0.2.2.2.2 ≤ σ.2.2.2.2 + sl
      omega
  have topin : 0 ≤ σ.2.2.2.1 := by have := I.1.1; omega
  unfold zi_ex at h
  split at h
  · cases h
  rename_i ins a b sw hf
  obtain ⟨hd, hk⟩ := hck _ (zi_find_mem hf)
  split at h
  · -- iconst
    have hk : (Int32.ofInt _).toInt = b := of_decide_eq_true hk
    refine lv_iconst hx hb hd rfl ?_
    have hbi : zi_ir b := by rw [← hk]; exact zi_to_ir _
    rw [zi_eq32 hk]
    exact go _ (.inl b :: st) h (cons hbi hst)
  · -- bipush
    have hk : ((Int8.ofInt _).toInt32).toInt = b := of_decide_eq_true hk
    refine lv_bipush hx hb hd rfl ?_
    have hbi : zi_ir b := by rw [← hk]; exact zi_to_ir _
    rw [zi_eq32 hk]
    exact go _ (.inl b :: st) h (cons hbi hst)
  · -- sipush
    have hk : ((Int16.ofInt _).toInt32).toInt = b := of_decide_eq_true hk
    refine lv_sipush hx hb hd rfl ?_
    have hbi : zi_ir b := by rw [← hk]; exact zi_to_ir _
    rw [zi_eq32 hk]
    exact go _ (.inl b :: st) h (cons hbi hst)
  · -- ldc_w
    obtain ⟨h1, h2⟩ := hpl _ (of_decide_eq_true hk)
    exact lv_ldcw hx hb hown (hts _ h1) hd (go _ (.inl b :: st) h (cons h2 hst))
  · -- lconst
    have hk : (Int64.ofNat _).toInt = b := of_decide_eq_true hk
    refine lv_lconst hx hb hd rfl ?_
    have hbi : zi_in (.inr (.inl b)) := by rw [← hk]; exact zi_tl_in _
    rw [zi_eq64 hk]
    exact go _ (.inr (.inl b) :: st) h (cons hbi hst)
  · -- ldc2_w
    obtain ⟨h1, h2⟩ := hpl _ (of_decide_eq_true hk)
    exact lv_ldc2 hx hb hown (hts _ h1) hd (go _ (.inr (.inl b) :: st) h (cons h2 hst))
  · -- aconst_null
    exact lv_null hx hb hd (go _ (.inr (.inr 0) :: st) h (cons (Int.le_refl 0) hst))
  · -- iload_n
    split at h
    · rename_i x hg
      obtain ⟨g1, g2⟩ := hl.2.2.2 _ _ hg
      exact lv_iload_n hx hb hd (Nat.eq_of_beq_eq_true hk) g1 (go _ (.inl x :: st) h (cons g2 hst))
    · cases h
  · -- iload
    split at h
    · rename_i x hg
      obtain ⟨g1, g2⟩ := hl.2.2.2 _ _ hg
      have hk := Nat.eq_of_beq_eq_true hk
      subst hk
      exact lv_iload hx hb hd g1 (go _ (.inl x :: st) h (cons g2 hst))
    · cases h
  · -- lload_n
    split at h
    · rename_i x hg
      obtain ⟨g1, g2⟩ := hl.2.2.2 _ _ hg
      exact lv_lload_n hx hb hd (Nat.eq_of_beq_eq_true hk) g1 (go _ (.inr (.inl x) :: st) h (cons g2 hst))
    · cases h
  · -- lload
    split at h
    · rename_i x hg
      obtain ⟨g1, g2⟩ := hl.2.2.2 _ _ hg
      have hk := Nat.eq_of_beq_eq_true hk
      subst hk
      exact lv_lload hx hb hd g1 (go _ (.inr (.inl x) :: st) h (cons g2 hst))
    · cases h
  · -- aload_n
    split at h
    · rename_i x hg
      obtain ⟨g1, g2⟩ := hl.2.2.2 _ _ hg
      have g3 := go _ (.inr (.inr x) :: st) h (cons g2 hst)
      rw [List.map_cons] at g3
      cases hr : zi_ro x with
      | none =>
        rw [zi_null hr] at g1 g3
        exact lv_aload_nN hx hb hd (Nat.eq_of_beq_eq_true hk) g1 g3
      | some y =>
        rw [zi_vr hr] at g1 g3
        exact lv_aload_n hx hb hd (Nat.eq_of_beq_eq_true hk) g1 g3
    · cases h
  · -- aload
    split at h
    · rename_i x hg
      obtain ⟨g1, g2⟩ := hl.2.2.2 _ _ hg
      have g3 := go _ (.inr (.inr x) :: st) h (cons g2 hst)
      rw [List.map_cons] at g3
      have hk := Nat.eq_of_beq_eq_true hk
      subst hk
      cases hr : zi_ro x with
      | none =>
        rw [zi_null hr] at g1 g3
        exact lv_aloadN hx hb hd g1 g3
      | some y =>
        rw [zi_vr hr] at g1 g3
        exact lv_aload hx hb hd g1 g3
    · cases h
  · -- istore_n
    split at h
    · rename_i x r
      split at h
      · rename_i ls' hs
        exact lv_istore_n hx hb hd (Nat.eq_of_beq_eq_true hk) (zi_lr_has hl) (by rw [← hl.1]; exact (zi_set_spec hs).2.1) rfl fun L' hL' => Hnx _ _ _ _ _ _ _ _ _ (zi_lr_set1 hl hs (hst _ List.mem_cons_self) hL') (fun v hv => hst v (List.mem_cons_of_mem _ hv)) I h
      · cases h
    · cases h
  · -- istore
    split at h
    · rename_i x r
      split at h
      · rename_i ls' hs
        have hk := Nat.eq_of_beq_eq_true hk
        subst hk
        exact lv_istore hx hb hd (zi_lr_has hl) (by rw [← hl.1]; exact (zi_set_spec hs).2.1) rfl fun L' hL' => Hnx _ _ _ _ _ _ _ _ _ (zi_lr_set1 hl hs (hst _ List.mem_cons_self) hL') (fun v hv => hst v (List.mem_cons_of_mem _ hv)) I h
      · cases h
    · cases h
  · -- astore_n
    split at h
    · rename_i x r
      split at h
      · rename_i ls' hs
        rw [List.map_cons]
        have hlt : a < nL := by rw [← hl.1]; exact (zi_set_spec hs).2.1
        cases hr : zi_ro x with
        | none =>
          rw [zi_null hr]
          exact lv_astore_nN hx hb hd (Nat.eq_of_beq_eq_true hk) (zi_lr_has hl) hlt rfl fun L' hL' => Hnx _ _ _ _ _ _ _ _ _ (zi_lr_set1 hl hs (hst _ List.mem_cons_self) (by rw [zi_null hr]; exact hL')) (fun v hv => hst v (List.mem_cons_of_mem _ hv)) I h
        | some y =>
          rw [zi_vr hr]
          exact lv_astore_n hx hb hd (Nat.eq_of_beq_eq_true hk) (zi_lr_has hl) hlt rfl fun L' hL' => Hnx _ _ _ _ _ _ _ _ _ (zi_lr_set1 hl hs (hst _ List.mem_cons_self) (by rw [zi_vr hr]; exact hL')) (fun v hv => hst v (List.mem_cons_of_mem _ hv)) I h
      · cases h
    · cases h
  · -- astore
    split at h
    · rename_i x r
      split at h
      · rename_i ls' hs
        rw [List.map_cons]
        have hk := Nat.eq_of_beq_eq_true hk
        subst hk
        have hlt := (zi_set_spec hs).2.1
        rw [hl.1] at hlt
        cases hr : zi_ro x with
        | none =>
          rw [zi_null hr]
          exact lv_astoreN hx hb hd (zi_lr_has hl) hlt rfl fun L' hL' => Hnx _ _ _ _ _ _ _ _ _ (zi_lr_set1 hl hs (hst _ List.mem_cons_self) (by rw [zi_null hr]; exact hL')) (fun v hv => hst v (List.mem_cons_of_mem _ hv)) I h
        | some y =>
          rw [zi_vr hr]
          exact lv_astore hx hb hd (zi_lr_has hl) hlt rfl fun L' hL' => Hnx _ _ _ _ _ _ _ _ _ (zi_lr_set1 hl hs (hst _ List.mem_cons_self) (by rw [zi_vr hr]; exact hL')) (fun v hv => hst v (List.mem_cons_of_mem _ hv)) I h
      · cases h
    · cases h
  · -- lstore_n
    split at h
    · rename_i x r
      split at h
      · rename_i l1 hs1
        split at h
        · rename_i l2 hs2
          exact lv_lstore_n hx hb hd (Nat.eq_of_beq_eq_true hk) (zi_lr_has hl) (by rw [← hl.1]; exact (zi_set_spec hs1).2.1) rfl fun L' hL' => Hnx _ _ _ _ _ _ _ _ _ (zi_lr_set2 hl hs1 hs2 (hst _ List.mem_cons_self) hL') (fun v hv => hst v (List.mem_cons_of_mem _ hv)) I h
        · cases h
      · cases h
    · cases h
  · -- lstore
    split at h
    · rename_i x r
      split at h
      · rename_i l1 hs1
        split at h
        · rename_i l2 hs2
          have hk := Nat.eq_of_beq_eq_true hk
          subst hk
          exact lv_lstore hx hb hd (zi_lr_has hl) (by rw [← hl.1]; exact (zi_set_spec hs1).2.1) rfl fun L' hL' => Hnx _ _ _ _ _ _ _ _ _ (zi_lr_set2 hl hs1 hs2 (hst _ List.mem_cons_self) hL') (fun v hv => hst v (List.mem_cons_of_mem _ hv)) I h
        · cases h
      · cases h
    · cases h
  · -- iinc
    rename_i i n
    have hk1 : (Nat.beq i a && decide (n = b ∧ -32768 ≤ n ∧ n ≤ 32767)) = true := hk
    rw [Bool.and_eq_true] at hk1
    have hk2 := Nat.eq_of_beq_eq_true hk1.1
    obtain ⟨e1, e2, e3⟩ : n = b ∧ -32768 ≤ n ∧ n ≤ 32767 := of_decide_eq_true hk1.2
    subst hk2; subst e1
    split at h
    · rename_i x hg
      split at h
      · rename_i ls' hs
        obtain ⟨g1, g2⟩ := hl.2.2.2 _ _ hg
        obtain ⟨k, hk⟩ := List.getElem?_of_mem (zi_ll_mem.mpr ⟨_, hg, rfl⟩ : (i, zi_v (.inl x)) ∈ zi_ll ls)
        exact lv_iinc hx hb hd (zi_lr_has hl) hk (zi_add g2 (by unfold zi_ir; omega)) (by rw [← hl.1]; exact (zi_set_spec hs).2.1) rfl fun L' hL' => Hnx _ _ _ _ _ _ _ _ _ (zi_lr_set1 hl hs (zi_w_ir _) hL') hst I h
      · cases h
    · cases h
  · -- iadd
    split at h
    · rename_i y x r
      have iy : zi_ir y := hst _ List.mem_cons_self
      have ix : zi_ir x := hst _ (List.mem_cons_of_mem _ List.mem_cons_self)
      have g := go _ (.inl (zi_w (x + y)) :: r) h (cons (zi_w_ir _) fun v hv => hst v (List.mem_cons_of_mem _ (List.mem_cons_of_mem _ hv)))
      rw [List.map_cons, zi_v, ← zi_add ix iy] at g
      exact lv_iadd hx hb hd g
    · cases h
  · -- isub
    split at h
    · rename_i y x r
      have iy : zi_ir y := hst _ List.mem_cons_self
      have ix : zi_ir x := hst _ (List.mem_cons_of_mem _ List.mem_cons_self)
      have g := go _ (.inl (zi_w (x - y)) :: r) h (cons (zi_w_ir _) fun v hv => hst v (List.mem_cons_of_mem _ (List.mem_cons_of_mem _ hv)))
      rw [List.map_cons, zi_v, ← zi_sub ix iy] at g
      exact lv_isub hx hb hd g
    · cases h
  · -- imul
    split at h
    · rename_i y x r
      have iy : zi_ir y := hst _ List.mem_cons_self
      have ix : zi_ir x := hst _ (List.mem_cons_of_mem _ List.mem_cons_self)
      have g := go _ (.inl (zi_w (x * y)) :: r) h (cons (zi_w_ir _) fun v hv => hst v (List.mem_cons_of_mem _ (List.mem_cons_of_mem _ hv)))
      rw [List.map_cons, zi_v, ← zi_mul ix iy] at g
      exact lv_imul hx hb hd g
    · cases h
  · -- idiv
    split at h
    · rename_i y x r
      split at h
      · cases h
      rename_i hy0
      have iy : zi_ir y := hst _ List.mem_cons_self
      have ix : zi_ir x := hst _ (List.mem_cons_of_mem _ List.mem_cons_self)
      have g := go _ (.inl (zi_div x y) :: r) h (cons (zi_w_ir _) fun v hv => hst v (List.mem_cons_of_mem _ (List.mem_cons_of_mem _ hv)))
      rw [List.map_cons, zi_v, ← zi_divE ix iy] at g
      exact lv_idiv hx hb hd (by rw [zi_z, zi_eq iy zi_ir0]; exact hy0) g
    · cases h
  · -- irem
    split at h
    · rename_i y x r
      split at h
      · cases h
      rename_i hy0
      have iy : zi_ir y := hst _ List.mem_cons_self
      have ix : zi_ir x := hst _ (List.mem_cons_of_mem _ List.mem_cons_self)
      have g := go _ (.inl (zi_rem x y) :: r) h (cons (zi_w_ir _) fun v hv => hst v (List.mem_cons_of_mem _ (List.mem_cons_of_mem _ hv)))
      rw [List.map_cons, zi_v, ← zi_remE ix iy] at g
      exact lv_irem hx hb hd (by rw [zi_z, zi_eq iy zi_ir0]; exact hy0) g
    · cases h
  · -- iand
    split at h
    · rename_i y x r
      have g := go _ (.inl (zi_and x y) :: r) h (cons (zi_and_ir _ _) fun v hv => hst v (List.mem_cons_of_mem _ (List.mem_cons_of_mem _ hv)))
      rw [List.map_cons, zi_v, ← zi_andE] at g
      exact lv_iand hx hb hd g
    · cases h
  · -- ladd
    split at h
    · rename_i y x r
      have iy := hst _ List.mem_cons_self
      have ix := hst _ (List.mem_cons_of_mem _ List.mem_cons_self)
      have g := go _ (.inr (.inl (zi_w64 (x + y))) :: r) h (cons (zi_w64_in _) fun v hv => hst v (List.mem_cons_of_mem _ (List.mem_cons_of_mem _ hv)))
      rw [List.map_cons, zi_v, ← zi_ladd ix iy] at g
      exact lv_ladd hx hb hd g
    · cases h
  · -- lsub
    split at h
    · rename_i y x r
      have iy := hst _ List.mem_cons_self
      have ix := hst _ (List.mem_cons_of_mem _ List.mem_cons_self)
      have g := go _ (.inr (.inl (zi_w64 (x - y))) :: r) h (cons (zi_w64_in _) fun v hv => hst v (List.mem_cons_of_mem _ (List.mem_cons_of_mem _ hv)))
      rw [List.map_cons, zi_v, ← zi_lsub ix iy] at g
      exact lv_lsub hx hb hd g
    · cases h
  · -- lcmp
    split at h
    · rename_i y x r
      have iy := hst _ List.mem_cons_self
      have ix := hst _ (List.mem_cons_of_mem _ List.mem_cons_self)
      have g := go _ (.inl (if y < x then 1 else if x = y then 0 else -1) :: r) h (cons (by
        show zi_ir _
        unfold zi_ir
        split
        · omega
        · split <;> omega) fun v hv => hst v (List.mem_cons_of_mem _ (List.mem_cons_of_mem _ hv)))
      rw [List.map_cons, zi_v, ← zi_cmp ix iy] at g
      exact W.lcmp hx hb hd g
    · cases h
  · -- i2l
    split at h
    · rename_i x r
      have ix : zi_ir x := hst _ List.mem_cons_self
      exact lv_i2l hx hb hd (zi_i2l ix) (go _ (.inr (.inl x) :: r) h (cons (zi_i2l_in ix) fun v hv => hst v (List.mem_cons_of_mem _ hv)))
    · cases h
  · -- l2i
    split at h
    · rename_i x r
      have ix := hst _ List.mem_cons_self
      exact lv_l2i hx hb hd (zi_l2i ix) (go _ (.inl (zi_w x) :: r) h (cons (zi_w_ir _) fun v hv => hst v (List.mem_cons_of_mem _ hv)))
    · cases h
  · -- i2b
    split at h
    · rename_i x r
      exact lv_i2b hx hb hd (zi_i2bE x) (go _ (.inl (zi_i2b x) :: r) h (cons (zi_to_ir _) fun v hv => hst v (List.mem_cons_of_mem _ hv)))
    · cases h
  · -- i2c
    split at h
    · rename_i x r
      exact lv_i2c hx hb hd (zi_i2cE x) (go _ (.inl (zi_i2c x) :: r) h (cons (zi_to_ir _) fun v hv => hst v (List.mem_cons_of_mem _ hv)))
    · cases h
  · -- i2s
    split at h
    · rename_i x r
      exact lv_i2s hx hb hd (zi_i2sE x) (go _ (.inl (zi_i2s x) :: r) h (cons (zi_to_ir _) fun v hv => hst v (List.mem_cons_of_mem _ hv)))
    · cases h
  · -- dup
    split at h
    · rename_i v r
      rw [cond_eq_ite] at h
      split at h
      · rename_i hc
        exact lv_dup hx hb hd (zi_v_cat1 hc) (go _ (v :: v :: r) h (cons (hst _ List.mem_cons_self) hst))
      · cases h
    · cases h
  · -- dup2
    split at h
    · rename_i v w r
      rw [cond_eq_ite] at h
      split at h
      · rename_i hc
        rw [Bool.and_eq_true] at hc
        exact lv_dup2_11 hx hb hd (zi_v_cat1 hc.1) (zi_v_cat1 hc.2) (go _ (v :: w :: v :: w :: r) h (cons (hst _ List.mem_cons_self) (cons (hst _ (List.mem_cons_of_mem _ List.mem_cons_self)) hst)))
      · cases h
    · cases h
  · -- pop
    split at h
    · rename_i v r
      rw [cond_eq_ite] at h
      split at h
      · rename_i hc
        exact lv_pop hx hb hd (zi_v_cat1 hc) (go _ r h fun v hv => hst v (List.mem_cons_of_mem _ hv))
      · cases h
    · cases h
  · -- ifCond
    rename_i cd off
    have hkk : (pc : Int) + off = (a : Int) := of_decide_eq_true hk
    split at h
    · rename_i x r
      have ix : zi_ir x := hst _ List.mem_cons_self
      have ir : ∀ v ∈ r, zi_in v := fun v hv => hst v (List.mem_cons_of_mem _ hv)
      cases cd <;> (simp only [zi_if] at h)
      · refine lv_if_eq hx hb hd hkk (fun q => ?_) (fun q => ?_) <;> rw [zi_z, zi_eq ix zi_ir0] at q
        · rw [if_pos q] at h; exact go _ r h ir
        · rw [if_neg q] at h; exact go _ r h ir
      · refine lv_if_ne hx hb hd hkk (fun q => ?_) (fun q => ?_) <;> rw [zi_z, zi_eq ix zi_ir0] at q
        · rw [if_neg q] at h; exact go _ r h ir
        · rw [if_pos q] at h; exact go _ r h ir
      · refine lv_if_lt hx hb hd hkk (fun q => ?_) (fun q => ?_) <;> rw [zi_z, zi_lt ix zi_ir0] at q
        · rw [if_pos q] at h; exact go _ r h ir
        · rw [if_neg q] at h; exact go _ r h ir
      · refine lv_if_ge hx hb hd hkk (fun q => ?_) (fun q => ?_) <;> rw [zi_z, zi_le zi_ir0 ix] at q
        · rw [if_neg (by omega)] at h; exact go _ r h ir
        · rw [if_pos (by omega)] at h; exact go _ r h ir
      · refine lv_if_gt hx hb hd hkk (fun q => ?_) (fun q => ?_) <;> rw [zi_z, zi_lt zi_ir0 ix] at q
        · rw [if_pos q] at h; exact go _ r h ir
        · rw [if_neg q] at h; exact go _ r h ir
      · refine lv_if_le hx hb hd hkk (fun q => ?_) (fun q => ?_) <;> rw [zi_z, zi_le ix zi_ir0] at q
        · rw [if_neg (by omega)] at h; exact go _ r h ir
        · rw [if_pos (by omega)] at h; exact go _ r h ir
    · cases h
  · -- if_icmp
    rename_i cd off
    have hkk : (pc : Int) + off = (a : Int) := of_decide_eq_true hk
    split at h
    · rename_i y x r
      have iy : zi_ir y := hst _ List.mem_cons_self
      have ix : zi_ir x := hst _ (List.mem_cons_of_mem _ List.mem_cons_self)
      have ir : ∀ v ∈ r, zi_in v := fun v hv => hst v (List.mem_cons_of_mem _ (List.mem_cons_of_mem _ hv))
      cases cd <;> (simp only [zi_if] at h)
      · refine lv_icmp_eq hx hb hd hkk (fun q => ?_) (fun q => ?_) <;> rw [zi_eq ix iy] at q
        · rw [if_pos q] at h; exact go _ r h ir
        · rw [if_neg q] at h; exact go _ r h ir
      · refine lv_icmp_ne hx hb hd hkk (fun q => ?_) (fun q => ?_) <;> rw [zi_eq ix iy] at q
        · rw [if_neg q] at h; exact go _ r h ir
        · rw [if_pos q] at h; exact go _ r h ir
      · refine lv_icmp_lt hx hb hd hkk (fun q => ?_) (fun q => ?_) <;> rw [zi_lt ix iy] at q
        · rw [if_pos q] at h; exact go _ r h ir
        · rw [if_neg q] at h; exact go _ r h ir
      · refine lv_icmp_ge hx hb hd hkk (fun q => ?_) (fun q => ?_) <;> rw [zi_le iy ix] at q
        · rw [if_neg (by omega)] at h; exact go _ r h ir
        · rw [if_pos (by omega)] at h; exact go _ r h ir
      · refine lv_icmp_gt hx hb hd hkk (fun q => ?_) (fun q => ?_) <;> rw [zi_lt iy ix] at q
        · rw [if_pos q] at h; exact go _ r h ir
        · rw [if_neg q] at h; exact go _ r h ir
      · refine lv_icmp_le hx hb hd hkk (fun q => ?_) (fun q => ?_) <;> rw [zi_le ix iy] at q
        · rw [if_neg (by omega)] at h; exact go _ r h ir
        · rw [if_pos (by omega)] at h; exact go _ r h ir
    · cases h
  · -- ifnull
    have hk : (pc : Int) + _ = (a : Int) := of_decide_eq_true hk
    split at h
    · rename_i x r
      have ix : 0 ≤ x := hst _ List.mem_cons_self
      have ir : ∀ v ∈ r, zi_in v := fun v hv => hst v (List.mem_cons_of_mem _ hv)
      rw [List.map_cons]
      cases hr : zi_ro x with
      | none =>
        rw [if_pos ((zi_ro0 ix).mp hr)] at h
        rw [zi_null hr]
        exact lv_ifnullN hx hb hd hk (go _ r h ir)
      | some y =>
        rw [if_neg (fun q => by rw [(zi_ro0 ix).mpr q] at hr; cases hr)] at h
        rw [zi_vr hr]
        exact lv_ifnull hx hb hd (go _ r h ir)
    · cases h
  · -- ifnonnull
    have hk : (pc : Int) + _ = (a : Int) := of_decide_eq_true hk
    split at h
    · rename_i x r
      have ix : 0 ≤ x := hst _ List.mem_cons_self
      have ir : ∀ v ∈ r, zi_in v := fun v hv => hst v (List.mem_cons_of_mem _ hv)
      rw [List.map_cons]
      cases hr : zi_ro x with
      | none =>
        rw [if_pos ((zi_ro0 ix).mp hr)] at h
        rw [zi_null hr]
        exact lv_ifnonnullN hx hb hd (go _ r h ir)
      | some y =>
        rw [if_neg (fun q => by rw [(zi_ro0 ix).mpr q] at hr; cases hr)] at h
        rw [zi_vr hr]
        exact lv_ifnonnull hx hb hd hk (go _ r h ir)
    · cases h
  · -- goto
    exact lv_goto hx hb hd (of_decide_eq_true hk) (go _ st h hst)
  · -- tableswitch
    rename_i d lo hi offs
    obtain ⟨h1, h2, h3, h4, h5⟩ : (pc : Int) + d = (a : Int) ∧ lo ≤ hi ∧ (offs.size : Int) = hi - lo + 1 ∧ sw = (List.range offs.size).map (fun i : Nat => (lo + (i : Int), ((pc : Int) + offs.getD i 0).toNat)) ∧ ∀ o ∈ offs.toList, 0 ≤ (pc : Int) + o := of_decide_eq_true hk
    split at h
    · rename_i x r
      have ix : zi_ir x := hst _ List.mem_cons_self
      have ir : ∀ v ∈ r, zi_in v := fun v hv => hst v (List.mem_cons_of_mem _ hv)
      rcases zi_sw_cases h with ⟨q, hq, hxq, h⟩ | ⟨hno, h⟩
      · rw [h4] at hq
        obtain ⟨i, hi, rfl⟩ := List.mem_map.mp hq
        have hi' := List.mem_range.mp hi
        change x = lo + (i : Int) at hxq
        have hoi : offs[i]? = some offs[i] := Array.getElem?_eq_getElem hi'
        have hge := h5 offs[i] (Array.mem_toList_iff.mpr (Array.getElem_mem hi'))
        have hgd : offs.getD i 0 = offs[i] := by rw [Array.getD_eq_getD_getElem?, hoi]; rfl
        refine lv_tableIn (x := Int32.ofInt x) (off := offs[i]) (tgt := ((pc : Int) + offs.getD i 0).toNat) hx hb hd (by rw [zi_oi' ix]; omega) (by rw [zi_oi' ix]; omega) (by rw [zi_oi' ix, show (x - lo).toNat = i by omega]; exact hoi) (by rw [hgd]; omega) (go _ r h ir)
      · refine lv_tableOut (x := Int32.ofInt x) hx hb hd ?_ h1 (go _ r h ir)
        rw [zi_oi' ix]
        by_cases hc : x < lo ∨ hi < x
        · exact hc
        · exfalso
          have hlt : (x - lo).toNat < offs.size := by omega
          refine hno (lo + ((x - lo).toNat : Int), ((pc : Int) + offs.getD (x - lo).toNat 0).toNat) (by rw [h4]; exact List.mem_map.mpr ⟨(x - lo).toNat, List.mem_range.mpr hlt, rfl⟩) ?_
          show x = lo + ((x - lo).toNat : Int)
          omega
    · cases h
  · -- lookupswitch
    rename_i d ps
    have hk1 : (decide ((pc : Int) + d = (a : Int) ∧ sw = ps.toList.map (fun q => (q.1, ((pc : Int) + q.2).toNat)) ∧ (∀ q ∈ ps.toList, 0 ≤ (pc : Int) + q.2)) && (ps.toList.zip (ps.toList.drop 1)).all (fun (x, next) => decide (x.1 < next.1))) = true := hk
    rw [Bool.and_eq_true] at hk1
    obtain ⟨h1, h4, h5⟩ := of_decide_eq_true hk1.1
    split at h
    · rename_i x r
      have ix : zi_ir x := hst _ List.mem_cons_self
      have ir : ∀ v ∈ r, zi_in v := fun v hv => hst v (List.mem_cons_of_mem _ hv)
      rw [h4] at h
      obtain ⟨tgt, off, g1, g2, g3⟩ : ∃ (tgt : Nat) (off : Int), Op.lookupswitch.offset ps.toList d x = off ∧ (pc : Int) + off = (tgt : Int) ∧ nx tgt ls r σ = some res := by
        clear hk hk1 hd hf h4
        generalize ps.toList = lst at h h5 ⊢
        induction lst with
        | nil => exact ⟨a, d, rfl, h1, h⟩
        | cons q w ih =>
          rw [List.map_cons] at h
          unfold zi_sw at h
          by_cases hxq : x = q.1
          · rw [if_pos hxq] at h
            refine ⟨_, q.2, ?_, ?_, h⟩
            · unfold Op.lookupswitch.offset
              simp [hxq]
            · have := h5 q List.mem_cons_self
              omega
          · rw [if_neg hxq] at h
            obtain ⟨tgt, off, g1, g2, g3⟩ := ih h (fun z hz => h5 z (List.mem_cons_of_mem _ hz))
            refine ⟨tgt, off, ?_, g2, g3⟩
            rw [← g1]
            obtain ⟨q1, q2⟩ := q
            have hne : ¬ q1 = x := fun z => hxq z.symm
            show lookupswitch.offset ((q1, q2) :: w) d x = lookupswitch.offset w d x
            rw [lookupswitch.offset, if_neg hne]
      exact lv_lookup (x := Int32.ofInt x) hx hb hd hk1.2 (by rw [zi_oi' ix]; exact g1) g2 (go _ r g3 ir)
    · cases h
  · -- getfield
    have hk := of_decide_eq_true hk
    split at h
    · rename_i x r
      split at h
      · rename_i hkd
        have ir : ∀ v ∈ r, zi_in v := fun v hv => hst v (List.mem_cons_of_mem _ hv)
        exact zi_getf C I.1 (hk.imp (hpl _) (hpl _)) hkd hd fun hv => go _ (_ :: r) h (cons hv ir)
      · cases h
    · cases h
  · -- putfield
    rename_i idx
    have hk1 : (decide ((idx, 0, a, b) ∈ pl ∨ (idx, 1, a, b) ∈ pl) && (match vwCl[a]? with
      | some q => !(q.2.1 b.toNat).2.2.2 || (ini && decide (q.1 = own) && decide ((idx, 0, a, b) ∈ pl))
      | none => false)) = true := hk
    rw [Bool.and_eq_true] at hk1
    have hk2 := of_decide_eq_true hk1.1
    have hfin : ∀ q, vwCl[a]? = some q → (q.2.1 b.toNat).2.2.2 = false ∨ (ini = true ∧ q.1 = own ∧ zi_pm recs own (idx, 0, a, b)) := by
      intro q hq
      have h1 := hk1.2
      rw [hq] at h1
      simp only [Bool.or_eq_true, Bool.not_eq_true', Bool.and_eq_true, decide_eq_true_eq] at h1
      rcases h1 with h1 | ⟨⟨h1, h2⟩, h3⟩
      · exact Or.inl h1
      · exact Or.inr ⟨h1, h2, hpl _ h3⟩
    split at h
    · rename_i hft
      split at h
      · rename_i v x r
        split at h
        · rename_i hkd
          have ir : ∀ w ∈ r, zi_in w := fun w hw => hst w (List.mem_cons_of_mem _ (List.mem_cons_of_mem _ hw))
          have iv : zi_ir v := hst _ List.mem_cons_self
          have ev : zi_v (zi_mkv (zi_ft a b.toNat) v) = .int (Int32.ofInt v) := by rw [hft]; rfl
          have g := zi_putf (l := l) (e := e) (R := R) (below := below) (cells := cells) (slots := slots) (Q := Q) (L := L) (rest := r.map zi_v) C I.1 I.2.1 (hk2.imp (hpl _) (hpl _)) hfin hkd (fun q => by rw [hft] at q; cases q) (v := v) (by rw [hft]; exact iv) hd (fun H1 locs1 g1 g2 => mem (zi_wr σ x b v) H1 locs1 _ r (by rw [hft] at g1; exact g1) g2 ir rfl h)
          rw [ev] at g
          exact g
        · cases h
      · cases h
    · rename_i hft
      split at h
      · rename_i v x r
        split at h
        · rename_i hkd
          have ir : ∀ w ∈ r, zi_in w := fun w hw => hst w (List.mem_cons_of_mem _ (List.mem_cons_of_mem _ hw))
          have iv : zi_ir v := hst _ List.mem_cons_self
          have ev : zi_v (zi_mkv (zi_ft a b.toNat) v) = .int (Int32.ofInt v) := by rw [hft]; rfl
          have g := zi_putf (l := l) (e := e) (R := R) (below := below) (cells := cells) (slots := slots) (Q := Q) (L := L) (rest := r.map zi_v) C I.1 I.2.1 (hk2.imp (hpl _) (hpl _)) hfin hkd.1 (fun _ => hkd.2) (v := v) (by rw [hft]; exact iv) hd (fun H1 locs1 g1 g2 => mem (zi_wr σ x b v) H1 locs1 _ r (by rw [hft] at g1; exact g1) g2 ir rfl h)
          rw [ev] at g
          exact g
        · cases h
      · cases h
    · rename_i hft
      split at h
      · rename_i v x r
        split at h
        · rename_i hkd
          have ir : ∀ w ∈ r, zi_in w := fun w hw => hst w (List.mem_cons_of_mem _ (List.mem_cons_of_mem _ hw))
          have iv : zi_in (.inr (.inr v)) := hst _ List.mem_cons_self
          have ev : zi_v (zi_mkv (zi_ft a b.toNat) v) = zi_v (.inr (.inr v)) := by rw [hft]; rfl
          have g := zi_putf (l := l) (e := e) (R := R) (below := below) (cells := cells) (slots := slots) (Q := Q) (L := L) (rest := r.map zi_v) C I.1 I.2.1 (hk2.imp (hpl _) (hpl _)) hfin hkd (fun q => by rw [hft] at q; cases q) (v := v) (by rw [hft]; exact iv) hd (fun H1 locs1 g1 g2 => mem (zi_wq σ x b v) H1 locs1 _ r (by rw [hft] at g1; exact g1) g2 ir rfl h)
          rw [ev] at g
          exact g
        · cases h
      · cases h
    · cases h
  · -- iaload
    have hk1 : (Nat.beq a 12 || Nat.beq a 18) = true := hk
    rw [Bool.or_eq_true] at hk1
    split at h
    · rename_i j x r
      split at h
      · rename_i hc
        have ij : zi_ir j := hst _ List.mem_cons_self
        have ir : ∀ v ∈ r, zi_in v := fun v hv => hst v (List.mem_cons_of_mem _ (List.mem_cons_of_mem _ hv))
        refine zi_iald C I.1 (x := x) (j := j) ?_ ij hc.2.1 hc.2.2 hd (fun hv => go _ (.inl _ :: r) h (cons hv ir))
        rcases hk1 with h1 | h1
        · exact Or.inl (hc.1.trans (Nat.eq_of_beq_eq_true h1))
        · exact Or.inr (hc.1.trans (Nat.eq_of_beq_eq_true h1))
      · cases h
    · cases h
  · -- iastore
    split at h
    · rename_i v j x r
      split at h
      · rename_i hc
        have iv : zi_ir v := hst _ List.mem_cons_self
        have ij : zi_ir j := hst _ (List.mem_cons_of_mem _ List.mem_cons_self)
        have ir : ∀ v ∈ r, zi_in v := fun v hv => hst v (List.mem_cons_of_mem _ (List.mem_cons_of_mem _ (List.mem_cons_of_mem _ hv)))
        exact zi_iast C I.1 I.2.1 (x := x) (j := j) (v := v) hc.1 ij hc.2.1 hc.2.2 iv hd (fun H1 locs1 g1 g2 => mem (zi_wr σ x j v) H1 locs1 _ r g1 g2 ir rfl h)
      · cases h
    · cases h
  · -- baload
    split at h
    · rename_i j x r
      split at h
      · rename_i hc
        have ij : zi_ir j := hst _ List.mem_cons_self
        have ir : ∀ v ∈ r, zi_in v := fun v hv => hst v (List.mem_cons_of_mem _ (List.mem_cons_of_mem _ hv))
        exact zi_zald C I.1 (x := x) (j := j) hc.1 ij hc.2.1 hc.2.2 hd (fun hv => go _ (.inl _ :: r) h (cons hv ir))
      · cases h
    · cases h
  · -- bastore
    split at h
    · rename_i v j x r
      split at h
      · rename_i hc
        have ij : zi_ir j := hst _ (List.mem_cons_of_mem _ List.mem_cons_self)
        have ir : ∀ v ∈ r, zi_in v := fun v hv => hst v (List.mem_cons_of_mem _ (List.mem_cons_of_mem _ (List.mem_cons_of_mem _ hv)))
        exact zi_zast C I.1 I.2.1 (x := x) (j := j) (v := v) hc.1.1 ij hc.1.2.1 hc.1.2.2 hc.2 hd (fun H1 locs1 g1 g2 => mem (zi_wr σ x j v) H1 locs1 _ r g1 g2 ir rfl h)
      · cases h
    · cases h
  · -- aaload
    have hk1 : (Nat.ble 14 a && Nat.ble a 17) = true := hk
    rw [Bool.and_eq_true] at hk1
    split at h
    · rename_i j x r
      split at h
      · rename_i hc
        have ij : zi_ir j := hst _ List.mem_cons_self
        have ir : ∀ v ∈ r, zi_in v := fun v hv => hst v (List.mem_cons_of_mem _ (List.mem_cons_of_mem _ hv))
        exact zi_aald C I.1 (x := x) (j := j) hc.1 ⟨Nat.le_of_ble_eq_true hk1.1, Nat.le_of_ble_eq_true hk1.2⟩ ij hc.2.1 hc.2.2 hd (fun hv => go _ (.inr (.inr _) :: r) h (cons hv ir))
      · cases h
    · cases h
  · -- aastore
    have hk1 : (Nat.ble 14 a && Nat.ble a 17 && decide (0 ≤ b) && (match vwCl[b.toNat]? with
      | some q => decide (zi_ak a = some (.object q.1))
      | none => false)) = true := hk
    rw [Bool.and_eq_true, Bool.and_eq_true, Bool.and_eq_true] at hk1
    obtain ⟨⟨⟨k1, k2⟩, k3⟩, k4⟩ := hk1
    have k3 := of_decide_eq_true k3
    split at h
    · rename_i v j x r
      split at h
      · rename_i hc
        have ij : zi_ir j := hst _ (List.mem_cons_of_mem _ List.mem_cons_self)
        have ir : ∀ v ∈ r, zi_in v := fun v hv => hst v (List.mem_cons_of_mem _ (List.mem_cons_of_mem _ (List.mem_cons_of_mem _ hv)))
        cases hq : vwCl[b.toNat]? with
        | none => rw [hq] at k4; cases k4
        | some q =>
          rw [hq] at k4
          have hvb : (σ.1 v).1 = b.toNat := by have := hc.2; omega
          exact zi_aast C I.1 I.2.1 (x := x) (j := j) (v := v) hc.1.1 (of_decide_eq_true k4) (Nat.le_of_ble_eq_true k1) hq rfl hvb ij hc.1.2.1 hc.1.2.2 hd (fun H1 locs1 g1 g2 => mem (zi_wq σ x j v) H1 locs1 _ r g1 g2 ir rfl h)
      · cases h
    · cases h
  · -- arraylength
    have hk1 : (Nat.ble 12 a && Nat.ble a 18) = true := hk
    rw [Bool.and_eq_true] at hk1
    split at h
    · rename_i x r
      split at h
      · rename_i hc
        have ir : ∀ v ∈ r, zi_in v := fun v hv => hst v (List.mem_cons_of_mem _ hv)
        exact zi_alen C I.1 (x := x) hc ⟨Nat.le_of_ble_eq_true hk1.1, Nat.le_of_ble_eq_true hk1.2⟩ hd (fun hv => go _ (.inl _ :: r) h (cons hv ir))
      · cases h
    · cases h
  · -- newarray
    have hk := of_decide_eq_true hk
    split at h
    · rename_i n r
      split at h
      · rename_i hc
        have ir : ∀ v ∈ r, zi_in v := fun v hv => hst v (List.mem_cons_of_mem _ hv)
        obtain ⟨g1, g2, g3⟩ := made _ _ _ _ (.inr (.inr σ.2.2.2.1) :: r) h (cons topin ir)
        exact zi_newI C I.1 hk hwd hc.1 hc.2 g1 g2 hd g3
      · cases h
    · cases h
  · -- anewarray
    have hk := of_decide_eq_true hk
    split at h
    · rename_i n r
      split at h
      · rename_i hc
        have ir : ∀ v ∈ r, zi_in v := fun v hv => hst v (List.mem_cons_of_mem _ hv)
        obtain ⟨g1, g2, g3⟩ := made _ _ _ _ (.inr (.inr σ.2.2.2.1) :: r) h (cons topin ir)
        exact zi_newQ C I.1 (hpl _ hk) hc.1 hc.2 g1 g2 hd g3
      · cases h
    · cases h
  · -- new
    have hk := of_decide_eq_true hk
    obtain ⟨g1, g2, g3⟩ := made _ _ _ _ (.inr (.inr σ.2.2.2.1) :: st) h (cons topin hst)
    exact zi_newO C I.1 (hpl _ hk) g1 g2 hd g3
  · -- invokestatic
    rename_i idx
    have hk1 : ((decide ((idx, 2, a, b) ∈ pl ∨ (idx, 3, a, b) ∈ pl) && Nat.blt a 1000 && (match nps[a]? with
      | some q => decide (sw = [((q.1 : Int), q.2)])
      | none => false)) || (decide ((idx, 13, a, b) ∈ pl) && decide (sw = (if a = 1001 ∨ a = 1002 then [(2, 1)] else if a = 1003 ∨ a = 1004 then [(2, 4)] else [(5, 0)])))) = true := hk
    rw [Bool.or_eq_true] at hk1
    split at h
    · rename_i n rk sw'
      split at h
      · rename_i vs rest htk
        rw [cond_eq_ite] at h
        split at h
        · rename_i hcat
          rcases hk1 with hk1 | hk1
          · rw [Bool.and_eq_true, Bool.and_eq_true] at hk1
            obtain ⟨⟨k1, k2⟩, k3⟩ := hk1
            have k1 := of_decide_eq_true k1
            have k2 : a < 1000 := Nat.le_of_ble_eq_true k2
            cases hq : nps[a]? with
            | none => rw [hq] at k3; cases k3
            | some q =>
              rw [hq] at k3
              have k3 := of_decide_eq_true k3
              injection k3 with k4 k5
              injection k4 with k6 k7
              exact zi_inv C hnp HG1 HG3 hroom Hm Hnx I hl hst k2 hq k7 (Or.inl ⟨rfl, by omega, k1.imp (hpl _) (hpl _)⟩) htk hcat hd h
          · rw [Bool.and_eq_true] at hk1
            have k1 := hpl _ (of_decide_eq_true hk1.1)
            have k2 := of_decide_eq_true hk1.2
            obtain ⟨x, σ', h1, h2⟩ := zi_bind_cases h
            obtain ⟨av, e1, e2, e3⟩ := zi_take_spec htk
            rw [List.append_nil] at e1
            subst e1
            have hvs : ∀ v ∈ vs, zi_in v := fun v hv => hst v (by rw [e2]; exact List.mem_append_left _ (List.mem_reverse.mpr hv))
            have hrs : ∀ v ∈ rest, zi_in v := fun v hv => hst v (by rw [e2]; exact List.mem_append_right _ hv)
            have hcat' : ((rest.map zi_v).map fun v => v.category).sum ≤ 8 := by rw [zi_cats_eq]; exact Nat.le_of_ble_eq_true hcat
            have hlen : c.maxLocals = L.size := C.2.2.1.trans hl.2.1.symm
            have hcR : cells ≤ R.cells ∧ slots ≤ R.slots := by
              have g1 := HG3 _ _ _ _ _ h1
              have g2 := Hm _ _ _ _ h2
              obtain ⟨-, -, i3, i4, i5, i6⟩ := id I
              have g11 : σ.2.2.2.1 ≤ σ'.2.2.2.1 := g1.1
              have g12 : σ.2.2.2.2 ≤ σ'.2.2.2.2 := g1.2
              have g21 : σ'.2.2.2.1 ≤ res.2.2.2.2.1 := g2.1
              have g22 : σ'.2.2.2.2 ≤ res.2.2.2.2.2 := g2.2
              exact ⟨by omega, by omega⟩
            rcases k1 with ⟨ha, w1, w2, w3, w4⟩ | ⟨ha, w1, w2, w3, w4⟩ | ⟨ha, w1, w2, w3, w4⟩ | ⟨ha, w1, w2, w3, w4⟩ | ⟨ha, w1, w2, w3, w4⟩
            · change a = 1001 at ha
              subst ha
              obtain ⟨q1, q2, q3⟩ := HG2 _ _ _ _ _ (by decide) h1
              obtain ⟨u, v, rfl, rfl, rfl⟩ := zi_nat1 q1
              rw [if_pos (Or.inl rfl)] at k2
              cases k2
              have iu : zi_ir u := hvs _ List.mem_cons_self
              have iv : zi_ir v := hvs _ (List.mem_cons_of_mem _ List.mem_cons_self)
              have hres : zi_ir (if u < v then v else u) := by split <;> assumption
              rw [e2]
              refine va_mmax (rest := rest.map zi_v) (x := Int32.ofInt u) (y := Int32.ofInt v) hx hb hlen hown (hts _ w1) (hts _ w2) (hts _ w3) (hts _ w4) q2 (by omega) hcR.1 hcR.2 hd ?_
              rw [zi_max iu iv]
              exact go _ (.inl _ :: rest) h2 (cons hres hrs)
            · change a = 1002 at ha
              subst ha
              obtain ⟨q1, q2, q3⟩ := HG2 _ _ _ _ _ (by decide) h1
              obtain ⟨u, v, rfl, rfl, rfl⟩ := zi_nat2 q1
              rw [if_pos (Or.inr rfl)] at k2
              cases k2
              have iu : zi_ir u := hvs _ List.mem_cons_self
              have iv : zi_ir v := hvs _ (List.mem_cons_of_mem _ List.mem_cons_self)
              have hres : zi_ir (if v < u then v else u) := by split <;> assumption
              rw [e2]
              refine va_mmin (rest := rest.map zi_v) (x := Int32.ofInt u) (y := Int32.ofInt v) hx hb hlen hown (hts _ w1) (hts _ w2) (hts _ w3) (hts _ w4) q2 (by omega) hcR.1 hcR.2 hd ?_
              rw [zi_min iu iv]
              exact go _ (.inl _ :: rest) h2 (cons hres hrs)
            · change a = 1003 at ha
              subst ha
              obtain ⟨q1, q2, q3⟩ := HG2 _ _ _ _ _ (by decide) h1
              obtain ⟨u, v, rfl, rfl, rfl⟩ := zi_nat3 q1
              rw [if_neg (by omega), if_pos (Or.inl rfl)] at k2
              cases k2
              have iu : zi_in (.inr (.inl u)) := hvs _ List.mem_cons_self
              have iv : zi_in (.inr (.inl v)) := hvs _ (List.mem_cons_of_mem _ List.mem_cons_self)
              have hres : zi_in (.inr (.inl (if v < u then u else v))) := by split <;> assumption
              rw [e2]
              refine va_mmax_long (rest := rest.map zi_v) (x := Int64.ofInt u) (y := Int64.ofInt v) hx hb hlen hown (hts _ w1) (hts _ w2) (hts _ w3) (hts _ w4) q2 (by omega) hcR.1 hcR.2 hd ?_
              rw [zi_lmax iu iv]
              exact go _ (.inr (.inl _) :: rest) h2 (cons hres hrs)
            · change a = 1004 at ha
              subst ha
              obtain ⟨q1, q2, q3⟩ := HG2 _ _ _ _ _ (by decide) h1
              obtain ⟨u, v, rfl, rfl, rfl⟩ := zi_nat4 q1
              rw [if_neg (by omega), if_pos (Or.inr rfl)] at k2
              cases k2
              have iu : zi_in (.inr (.inl u)) := hvs _ List.mem_cons_self
              have iv : zi_in (.inr (.inl v)) := hvs _ (List.mem_cons_of_mem _ List.mem_cons_self)
              have hres : zi_in (.inr (.inl (if v < u then v else u))) := by split <;> assumption
              rw [e2]
              refine va_mmin_long (rest := rest.map zi_v) (x := Int64.ofInt u) (y := Int64.ofInt v) hx hb hlen hown (hts _ w1) (hts _ w2) (hts _ w3) (hts _ w4) q2 (by omega) hcR.1 hcR.2 hd ?_
              rw [zi_lmin iu iv]
              exact go _ (.inr (.inl _) :: rest) h2 (cons hres hrs)
            · change a = 1005 at ha
              subst ha
              obtain ⟨q1, q2, q3⟩ := HG2 _ _ _ _ _ (by decide) h1
              obtain ⟨x1, s1, y1, d1, n1, rfl, ⟨⟨c1, c2⟩, c3, c4, c5, c6, c7⟩, rfl, rfl⟩ := zi_nat5 q1
              rw [if_neg (by omega), if_neg (by omega)] at k2
              cases k2
              have j1 : zi_ir s1 := hvs (.inl s1) (by simp)
              have j2 : zi_ir d1 := hvs (.inl d1) (by simp)
              have j3 : zi_ir n1 := hvs (.inl n1) (by simp)
              rw [e2, List.map_append]
              exact zi_copy C I.1 I.2.1 hl.2.1 (recs := recs) (b := b) (hpl _ (of_decide_eq_true hk1.1)) (Nat.le_of_ble_eq_true hcat) q2 q3 c1 c2 c3 c4 c5 c6 c7 j1 j2 j3 hd (fun H1 locs1 g1 g2 => mem (σ.1, zi_cpy σ.2.1 x1 y1 s1 d1 n1, σ.2.2) H1 locs1 _ rest g1 g2 hrs rfl h2)
        · cases h
      · cases h
    · cases h
  · -- invokevirtual
    rename_i idx
    have hk1 : (decide ((idx, 4, a, b) ∈ pl ∨ (idx, 5, a, b) ∈ pl) && Nat.blt a 1000 && (match nps[a]? with
      | some q => decide (sw = [((q.1 : Int) + 1, q.2)])
      | none => false)) = true := hk
    rw [Bool.and_eq_true, Bool.and_eq_true] at hk1
    obtain ⟨⟨k1, k2⟩, k3⟩ := hk1
    have k1 := of_decide_eq_true k1
    have k2 : a < 1000 := Nat.le_of_ble_eq_true k2
    split at h
    · rename_i n rk sw'
      split at h
      · rename_i y vs rest htk
        rw [cond_eq_ite] at h
        split at h
        · rename_i hcat
          split at h
          · rename_i hyb
            cases hq : nps[a]? with
            | none => rw [hq] at k3; cases k3
            | some q =>
              rw [hq] at k3
              have k3 := of_decide_eq_true k3
              injection k3 with k4 k5
              injection k4 with k6 k7
              exact zi_inv C hnp HG1 HG3 hroom Hm Hnx I hl hst k2 hq k7 (Or.inr ⟨by omega, ⟨y, vs, rfl, hyb⟩, Or.inl ⟨rfl, k1.imp (hpl _) (hpl _)⟩⟩) htk hcat hd h
          · cases h
        · cases h
      · cases h
    · cases h
  · -- invokespecial
    rename_i idx
    have hk1 : ((decide ((idx, 6, a, b) ∈ pl ∨ (idx, 7, a, b) ∈ pl) && Nat.blt a 1000 && (match nps[a]? with
      | some q => decide (sw = [((q.1 : Int) + 1, q.2)])
      | none => false)) || (decide ((idx, 12, a, b) ∈ pl) && decide (a = 1000 ∧ sw = [(1, 0)]))) = true := hk
    rw [Bool.or_eq_true] at hk1
    split at h
    · rename_i n rk sw'
      split at h
      · rename_i y vs rest htk
        rw [cond_eq_ite] at h
        split at h
        · rename_i hcat
          split at h
          · rename_i hyb
            rcases hk1 with hk1 | hk1
            · rw [Bool.and_eq_true, Bool.and_eq_true] at hk1
              obtain ⟨⟨k1, k2⟩, k3⟩ := hk1
              have k1 := of_decide_eq_true k1
              have k2 : a < 1000 := Nat.le_of_ble_eq_true k2
              cases hq : nps[a]? with
              | none => rw [hq] at k3; cases k3
              | some q =>
                rw [hq] at k3
                have k3 := of_decide_eq_true k3
                injection k3 with k4 k5
                injection k4 with k6 k7
                exact zi_inv C hnp HG1 HG3 hroom Hm Hnx I hl hst k2 hq k7 (Or.inr ⟨by omega, ⟨y, vs, rfl, hyb⟩, Or.inr ⟨rfl, k1.imp (hpl _) (hpl _)⟩⟩) htk hcat hd h
            · rw [Bool.and_eq_true] at hk1
              obtain ⟨b1, b2, w1, w2, w3⟩ := hpl _ (of_decide_eq_true hk1.1)
              obtain ⟨k2, k3⟩ := of_decide_eq_true hk1.2
              subst k2
              cases k3
              obtain ⟨x, σ', h1, h2⟩ := zi_bind_cases h
              obtain ⟨q1, q2, q3⟩ := HG2 _ _ _ _ _ (by decide) h1
              obtain ⟨⟨z, hz⟩, rfl, rfl⟩ := zi_nat0 q1
              cases hz
              obtain ⟨av, e1, e2, e3⟩ := zi_take_spec htk
              rw [List.append_nil] at e1
              subst e1
              have hrs : ∀ v ∈ rest, zi_in v := fun v hv => hst v (by rw [e2]; exact List.mem_append_right _ hv)
              have hcat' : ((rest.map zi_v).map fun v => v.category).sum ≤ 8 := by rw [zi_cats_eq]; exact Nat.le_of_ble_eq_true hcat
              change 0 ≤ b at b1
              change b < 12 at b2
              have hky : (σ'.1 y).1 ≠ 99 := by omega
              obtain ⟨ad, ex, er⟩ := zi_kind_pos I.1 rfl hky
              have hst2 : st.map zi_v = .ref ad :: rest.map zi_v := by
                rw [e2]
                show zi_v (.inr (.inr y)) :: rest.map zi_v = _
                rw [zi_vr er]
              rw [hst2]
              exact W.objInit hx hb hown (hts _ w1) (hts _ w2) (hts _ w3) rfl (by show L.size = _; rw [hl.2.1]; exact C.2.2.1.symm) rfl hd q2 (by show 2 * 0 + _ + 12 ≤ _; omega) (go _ rest h2 hrs)
          · cases h
        · cases h
      · cases h
    · cases h
  · -- ireturn
    split at h
    · rename_i x
      split at h
      · rename_i hrk
        cases h
        exact Hend _ hd (Or.inl ⟨rfl, rfl, Or.inl hrk⟩) rfl
      · rename_i hrk
        split at h
        · rename_i hx01
          cases h
          exact Hend _ hd (Or.inl ⟨rfl, rfl, Or.inr ⟨hrk, hx01⟩⟩) rfl
        · cases h
      · cases h
    · cases h
  · -- areturn
    split at h
    · rename_i x
      split at h
      · rename_i hrk
        cases h
        exact Hend _ hd (Or.inr (Or.inl ⟨rfl, rfl, hrk⟩)) rfl
      · cases h
    · cases h
  · -- return
    split at h
    · split at h
      · rename_i hrk
        cases h
        exact Hend _ hd (Or.inr (Or.inr ⟨rfl, rfl, rfl, hrk⟩)) rfl
      · cases h
    · cases h
  · cases h
end ZX
end
section
/-! a method, and all methods that it calls -/
theorem zi_cut_mem : ∀ {cu : List (Nat × List Bool)} {pc : Nat} {x : List Bool}, zi_cut cu pc = some x → (pc, x) ∈ cu
  | [], _, _, h => by cases h
  | q :: r, pc, x, h => by
    unfold zi_cut at h
    cases hb : Nat.beq q.1 pc with
    | true =>
      rw [hb] at h
      have h1 := Nat.eq_of_beq_eq_true hb
      cases h
      subst h1
      exact List.mem_cons_self
    | false =>
      rw [hb] at h
      exact List.mem_cons_of_mem _ (zi_cut_mem h)
theorem zi_fr_succ {t : zT} {G : Nat → List zV → zM → zR} {K : Nat → zL → List zV → zM → zR} {n pc : Nat} {ls : zL} {st : List zV} {σ : zM} : zi_fr t G K (n + 1) pc ls st σ = zi_ex t G (fun pc' ls' st' σ' => match zi_cut t.2.1 pc' with
    | some live => K pc' (zi_mask live ls') st' σ'
    | none => zi_fr t G K n pc' ls' st' σ') pc ls st σ := rfl
theorem zi_run_succ {t : zT} {G : Nat → List zV → zM → zR} {n pc : Nat} {ls : zL} {st : List zV} {σ : zM} : zi_run t G (n + 1) pc ls st σ = zi_fr t G (zi_run t G n) 600 pc ls st σ := rfl
theorem zi_fr_le {t : zT} {G : Nat → List zV → zM → zR} {K : Nat → zL → List zV → zM → zR} {res : Int × zM} (HG : zi_G3 G) (HK : ∀ pc' ls' st' σ', K pc' ls' st' σ' = some res → zi_lq σ' res) : ∀ (n : Nat) {pc : Nat} {ls : zL} {st : List zV} {σ : zM}, zi_fr t G K n pc ls st σ = some res → zi_lq σ res
  | 0, _, _, _, _, h => by cases h
  | n + 1, pc, ls, st, σ, h => by
    rw [zi_fr_succ] at h
    refine zi_ex_le HG (fun pc' ls' st' σ' h' => ?_) h
    split at h'
    · exact HK _ _ _ _ h'
    · exact zi_fr_le HG HK n h'
theorem zi_run_le {t : zT} {G : Nat → List zV → zM → zR} {res : Int × zM} (HG : zi_G3 G) : ∀ (n : Nat) {pc : Nat} {ls : zL} {st : List zV} {σ : zM}, zi_run t G n pc ls st σ = some res → zi_lq σ res
  | 0, _, _, _, _, h => by cases h
  | n + 1, pc, ls, st, σ, h => by
    rw [zi_run_succ] at h
    exact zi_fr_le HG (fun pc' ls' st' σ' h' => zi_run_le HG n h') 600 h
theorem zi_G_le (tab : Nat → zT) : ∀ d, zi_G3 (zi_G tab d)
  | 0 => fun a vs σ x σ' h => by cases h
  | d + 1 => fun a vs σ x σ' h => by
    unfold zi_G at h
    cases hb : Nat.ble 1000 a with
    | true =>
      rw [hb] at h
      change zi_nat a vs σ = some (x, σ') at h
      unfold zi_nat at h
      split at h
      all_goals try (cases h; done)
      all_goals try (cases h; exact zi_lq_refl _ _)
      split at h
      · cases h; exact ⟨Int.le_refl _, Nat.le_refl _⟩
      · cases h
    | false =>
      rw [hb] at h
      cases hc : Nat.ble (zi_args vs).length (tab a).2.2.1 with
      | true =>
        rw [hc] at h
        exact zi_run_le (zi_G_le tab d) 20000 h
      | false =>
        rw [hc] at h
        cases h
section ZR
variable {p : Program} {l : Launch} {e : Env} {R : Room} {s : State} {m : MethodId} {args : Array Value} {below : List Frame} {meth : Method} {c : Code} {Q : State → Prop} {D : va_G} {cc : ByteArray} {nL : Nat} {own : String} {ini : Bool} {base : Nat} {σ0 : zM} {recs : List zi_rec}
/-- the end of a method, for the one who calls it -/
def zi_end (p : Program) (l : Launch) (e : Env) (R : Room) (s : State) (m : MethodId) (args : Array Value) (below : List Frame) (meth : Method) (c : Code) (Q : State → Prop) (D : va_G) (base : Nat) (cc : ByteArray) (σ0 : zM) (rk : Nat) (res : Int × zM) : Prop :=
  ∀ pc L st H locs cells slots ins, decode cc pc = .ok (ins, 1) → zi_endok rk ins st res.1 → (∀ v ∈ st, zi_in v) → zi_I s D base σ0 res.2 H locs cells slots → W p l e R s m args below meth c H locs cells slots Q (F0 m pc L (st.map zi_v))
theorem zi_fr_ok {t : zT} {G : Nat → List zV → zM → zR} {K : Nat → zL → List zV → zM → zR} {res : Int × zM} {nps : List (Nat × Nat)} {pl : List (Nat × Nat × Nat × Int)}
    (C : zi_cx p s m args meth c D cc nL own ini) (hpl : ∀ e ∈ pl, zi_pm recs own e) (hnp : ∀ (a : Nat) (r : zi_rec) (q : Nat × Nat), recs[a]? = some r → nps[a]? = some q → q = (r.2.2.2.1, r.2.2.2.2.2.2.2)) (hwd : Jvm.Cond.arrayClass .int ∈ zi_tb ∧ Jvm.Cond.arrayClass .boolean ∈ zi_tb)
    (hck : ∀ cl ∈ t.1, decode cc cl.1 = .ok (cl.2.1, zi_len cl.2.1 cl.2.2.2.1) ∧ zi_ck nps own pl ini cl = true) (hcut : ∀ q ∈ t.2.1, q.2.length = nL)
    (HG1 : zi_G1 l R recs G) (HG2 : zi_G2 R G) (HG3 : zi_G3 G) (hroom : (res.2.2.2.2.1 - σ0.2.2.2.1).toNat ≤ R.cells ∧ res.2.2.2.2.2 - σ0.2.2.2.2 ≤ R.slots)
    (HKm : ∀ pc' ls' st' σ', K pc' ls' st' σ' = some res → zi_lq σ' res)
    (HK : ∀ pc' ls' st' σ' L' H' locs' cells' slots', zi_lr ls' nL L' → (∀ v ∈ st', zi_in v) → zi_I s D base σ0 σ' H' locs' cells' slots' → K pc' ls' st' σ' = some res → W p l e R s m args below meth c H' locs' cells' slots' Q (F0 m pc' L' (st'.map zi_v)))
    (Hend : zi_end p l e R s m args below meth c Q D base cc σ0 t.2.2.2 res) :
    ∀ (n : Nat) pc ls st σ L H locs cells slots, zi_lr ls nL L → (∀ v ∈ st, zi_in v) → zi_I s D base σ0 σ H locs cells slots → zi_fr t G K n pc ls st σ = some res → W p l e R s m args below meth c H locs cells slots Q (F0 m pc L (st.map zi_v))
  | 0, _, _, _, _, _, _, _, _, _, _, _, _, h => by cases h
  | n + 1, pc, ls, st, σ, L, H, locs, cells, slots, hl, hst, I, h => by
    rw [zi_fr_succ] at h
    refine zi_ex_ok C hpl hnp hwd hck HG1 HG2 HG3 hroom (fun pc' ls' st' σ' h' => ?_) (fun pc' ls' st' σ' L' H' locs' cells' slots' g1 g2 g3 h' => ?_) (fun ins g1 g2 g3 => Hend _ _ _ _ _ _ _ ins g1 g2 hst (by rw [← g3]; exact I)) I hl hst h
    · split at h'
      · exact HKm _ _ _ _ h'
      · exact zi_fr_le HG3 HKm n h'
    · split at h'
      · rename_i live hlive
        exact HK _ _ _ _ _ _ _ _ _ (zi_lr_mask g1 (by rw [hcut _ (zi_cut_mem hlive)]; exact g1.1.symm)) g2 g3 h'
      · exact zi_fr_ok C hpl hnp hwd hck hcut HG1 HG2 HG3 hroom HKm HK Hend n _ _ _ _ _ _ _ _ _ g1 g2 g3 h'
theorem zi_run_ok {t : zT} {G : Nat → List zV → zM → zR} {res : Int × zM} {nps : List (Nat × Nat)} {pl : List (Nat × Nat × Nat × Int)}
    (C : zi_cx p s m args meth c D cc nL own ini) (hpl : ∀ e ∈ pl, zi_pm recs own e) (hnp : ∀ (a : Nat) (r : zi_rec) (q : Nat × Nat), recs[a]? = some r → nps[a]? = some q → q = (r.2.2.2.1, r.2.2.2.2.2.2.2)) (hwd : Jvm.Cond.arrayClass .int ∈ zi_tb ∧ Jvm.Cond.arrayClass .boolean ∈ zi_tb)
    (hck : ∀ cl ∈ t.1, decode cc cl.1 = .ok (cl.2.1, zi_len cl.2.1 cl.2.2.2.1) ∧ zi_ck nps own pl ini cl = true) (hcut : ∀ q ∈ t.2.1, q.2.length = nL)
    (HG1 : zi_G1 l R recs G) (HG2 : zi_G2 R G) (HG3 : zi_G3 G) (hroom : (res.2.2.2.2.1 - σ0.2.2.2.1).toNat ≤ R.cells ∧ res.2.2.2.2.2 - σ0.2.2.2.2 ≤ R.slots)
    (Hend : zi_end p l e R s m args below meth c Q D base cc σ0 t.2.2.2 res) :
    ∀ (n : Nat) pc ls st σ L H locs cells slots, zi_lr ls nL L → (∀ v ∈ st, zi_in v) → zi_I s D base σ0 σ H locs cells slots → zi_run t G n pc ls st σ = some res → W p l e R s m args below meth c H locs cells slots Q (F0 m pc L (st.map zi_v))
  | 0, _, _, _, _, _, _, _, _, _, _, _, _, h => by cases h
  | n + 1, pc, ls, st, σ, L, H, locs, cells, slots, hl, hst, I, h =>
    zi_fr_ok C hpl hnp hwd hck hcut HG1 HG2 HG3 hroom (fun pc' ls' st' σ' h' => zi_run_le HG3 n h')
      (fun pc' ls' st' σ' L' H' locs' cells' slots' g1 g2 g3 h' => zi_run_ok C hpl hnp hwd hck hcut HG1 HG2 HG3 hroom Hend n _ _ _ _ _ _ _ _ _ g1 g2 g3 h') Hend 600 pc ls st σ L H locs cells slots hl hst I h
end ZR
/-! the entry -/
theorem zi_sl_len : ∀ vs : List zV, (lg_sl (vs.map zi_v)).length = (zi_args vs).length
  | [] => rfl
  | .inl x :: r => by
    have := zi_sl_len r
    simp only [List.map_cons, zi_args, List.length_cons, ← this]
    rfl
  | .inr (.inl x) :: r => by
    have := zi_sl_len r
    simp only [List.map_cons, zi_args, List.length_cons, ← this]
    rfl
  | .inr (.inr x) :: r => by
    have := zi_sl_len r
    have h : (zi_v (.inr (.inr x))).category = 1 := zi_v_cat1 rfl
    simp only [List.map_cons, zi_args, List.length_cons, ← this]
    unfold lg_sl
    rw [List.flatMap_cons, h]
    simp
theorem zi_args_get : ∀ {vs : List zV} {k i : Nat} {v : zV}, zi_get (zi_args vs) i = some v → (k + i, zi_v v) ∈ lv_args k (vs.map zi_v) ∧ v ∈ vs
  | [], _, _, _, h => by cases h
  | .inl x :: r, k, 0, v, h => by cases h; exact ⟨List.mem_cons_self, List.mem_cons_self⟩
  | .inl x :: r, k, i + 1, v, h => by
    obtain ⟨h1, h2⟩ := zi_args_get (vs := r) (k := k + 1) (i := i) h
    refine ⟨List.mem_cons_of_mem _ ?_, List.mem_cons_of_mem _ h2⟩
    rw [show k + (i + 1) = k + 1 + i by omega]
    exact h1
  | .inr (.inl x) :: r, k, 0, v, h => by cases h; exact ⟨List.mem_cons_self, List.mem_cons_self⟩
  | .inr (.inl x) :: r, k, 1, v, h => by cases h
  | .inr (.inl x) :: r, k, i + 2, v, h => by
    obtain ⟨h1, h2⟩ := zi_args_get (vs := r) (k := k + 2) (i := i) h
    refine ⟨List.mem_cons_of_mem _ ?_, List.mem_cons_of_mem _ h2⟩
    rw [show k + (i + 2) = k + 2 + i by omega]
    exact h1
  | .inr (.inr x) :: r, k, 0, v, h => by cases h; exact ⟨List.mem_cons_self, List.mem_cons_self⟩
  | .inr (.inr x) :: r, k, i + 1, v, h => by
    obtain ⟨h1, h2⟩ := zi_args_get (vs := r) (k := k + 1) (i := i) h
    have hc : (zi_v (.inr (.inr x))).category = 1 := zi_v_cat1 rfl
    refine ⟨?_, List.mem_cons_of_mem _ h2⟩
    rw [List.map_cons, lv_args, hc]
    refine List.mem_cons_of_mem _ ?_
    rw [show k + (i + 1) = k + 1 + i by omega]
    exact h1
theorem zi_get_app : ∀ {a : zL} {n i : Nat} {v : zV}, zi_get (a ++ List.replicate n none) i = some v → zi_get a i = some v
  | [], 0, i, v, h => by cases h
  | [], n + 1, 0, v, h => by cases h
  | [], n + 1, i + 1, v, h => zi_get_app (a := []) (n := n) (i := i) h
  | w :: a, n, 0, v, h => h
  | w :: a, n, i + 1, v, h => zi_get_app (a := a) (n := n) (i := i) h
theorem zi_lr_entry {vs : List zV} {n : Nat} (h : (zi_args vs).length ≤ n) (hin : ∀ v ∈ vs, zi_in v) : zi_lr (zi_loc vs n) n ((lg_sl (vs.map zi_v) ++ List.replicate (n - (lg_sl (vs.map zi_v)).length) Slot.unset).toArray) := by
  have hE := lv_entry (vs.map zi_v) (n := n) (by rw [zi_sl_len]; exact h)
  refine ⟨?_, hE.1, hE.2.1, fun i v hv => ?_⟩
  · unfold zi_loc
    rw [List.length_append, List.length_replicate]
    omega
  · obtain ⟨h1, h2⟩ := zi_args_get (k := 0) (zi_get_app hv)
    rw [Nat.zero_add] at h1
    exact ⟨hE.2.2 _ h1, hin v h2⟩
def zi_rtk (rk : Nat) (rt : Option FieldType) : Prop := (rk = 0 ∧ rt = none) ∨ (rk = 1 ∧ rt = some .int) ∨ (rk = 2 ∧ rt = some .boolean) ∨ (rk = 3 ∧ ∃ n, rt = some (.object n))
def zi_rg (recs : List zi_rec) (nps : List (Nat × Nat)) (r : zi_rec) : Prop := zi_rok r ∧ plainName r.1.cls = true ∧ (∀ q ∈ r.2.2.2.2.2.1, q.2.length = r.2.2.2.2.2.2.1) ∧ zi_rtk r.2.2.2.2.2.2.2 r.2.2.1 ∧ ∃ pl, (∀ e ∈ pl, zi_pm recs r.1.cls e) ∧ ∀ cl ∈ r.2.2.2.2.1, decode r.2.1 cl.1 = .ok (cl.2.1, zi_len cl.2.1 cl.2.2.2.1) ∧ zi_ck nps r.1.cls pl (decide (r.1.name = "<init>")) cl = true
def zi_tab (recs : List zi_rec) (j : Nat) : zT := match recs[j]? with
  | some r => r.2.2.2.2
  | none => ([], [], 0, 0)
theorem zi_run_nil {cu : List (Nat × List Bool)} {a b : Nat} {G : Nat → List zV → zM → zR} {n pc : Nat} {ls : zL} {st : List zV} {σ : zM} : zi_run ([], cu, a, b) G n pc ls st σ = none := by
  cases n with
  | zero => rfl
  | succ n => rfl
set_option maxHeartbeats 4000000 in
theorem zi_G_ok {recs : List zi_rec} {nps : List (Nat × Nat)} (hrecs : ∀ r ∈ recs, zi_rg recs nps r) (hnp : ∀ (a : Nat) (r : zi_rec) (q : Nat × Nat), recs[a]? = some r → nps[a]? = some q → q = (r.2.2.2.1, r.2.2.2.2.2.2.2)) (hwd : Jvm.Cond.arrayClass .int ∈ zi_tb ∧ Jvm.Cond.arrayClass .boolean ∈ zi_tb) (l : Launch) :
    ∀ (d : Nat) (R : Room), d ≤ R.frames → 38 * d ≤ R.locals → zi_G1 l R recs (zi_G (zi_tab recs) d) ∧ zi_G2 R (zi_G (zi_tab recs) d)
  | 0, R, _, _ => ⟨fun a vs σ x σ' _ h => (by cases h), fun a vs σ x σ' _ h => (by cases h)⟩
  | d + 1, R, hf, hlc => by
    refine ⟨fun a vs σ x σ' ha h hin => ?_, fun a vs σ x σ' ha h => ?_⟩
    · unfold zi_G at h
      have hb : Nat.ble 1000 a = false := by
        cases hb : Nat.ble 1000 a with
        | true => exact absurd (Nat.le_of_ble_eq_true hb) (by omega)
        | false => rfl
      rw [hb] at h
      change (bif Nat.ble (zi_args vs).length (zi_tab recs a).2.2.1 then zi_run (zi_tab recs a) (zi_G (zi_tab recs) d) 20000 0 (zi_loc vs (zi_tab recs a).2.2.1) [] σ else none) = some (x, σ') at h
      cases hr : recs[a]? with
      | none =>
        exfalso
        have ht : zi_tab recs a = ([], [], 0, 0) := by unfold zi_tab; rw [hr]
        rw [ht] at h
        cases hc : Nat.ble (zi_args vs).length 0 with
        | true => rw [hc, zi_run_nil] at h; cases h
        | false => rw [hc] at h; cases h
      | some r =>
        have ht : zi_tab recs a = r.2.2.2.2 := by unfold zi_tab; rw [hr]
        rw [ht] at h
        obtain ⟨hok, hpn, hcut, hrtk, pl, hpl, hck⟩ := hrecs r (List.mem_of_getElem? hr)
        cases hc : Nat.ble (zi_args vs).length r.2.2.2.2.2.2.1 with
        | false => rw [hc] at h; cases h
        | true =>
          rw [hc] at h
          change zi_run r.2.2.2.2 (zi_G (zi_tab recs) d) 20000 0 (zi_loc vs r.2.2.2.2.2.2.1) [] σ = some (x, σ') at h
          refine ⟨r, d, rfl, hok, hf, hlc, fun D base => ?_⟩
          refine Met.ofW (cc := r.2.1) (maxL := r.2.2.2.2.2.2.1) (ret := r.2.2.1) hpn rfl ?_
          intro p e s m args below meth c s₁ B hml hv
          obtain ⟨rfl, hK, hnw, hW⟩ := hv
          have hx := B.exec
          have hb := B.bytes
          have hrt := B.returns
          have hts := atoms_spec (ws := zi_ws r) B.pre
          have hown : s.vm.findClass r.1.cls = some m.cls := findClass_of_methodNamed B.named
          have hlocks := B.notSynchronized
          have hnm : meth.name = r.1.name := (name_of_methodNamed B.named B.method).1
          rw [lg_entry_eq]
          have hlr := zi_lr_entry (Nat.le_of_ble_eq_true hc) hin
          have hC : zi_cx p s m (vs.map zi_v).toArray meth c D r.2.1 r.2.2.2.2.2.2.1 r.1.cls (decide (r.1.name = "<init>")) := ⟨hx, hb, hml, hown, fun w hw => hts w (List.mem_cons_of_mem _ hw), hK, hnw, fun q => by rw [hnm]; exact of_decide_eq_true q⟩
          obtain ⟨G1, G2⟩ := zi_G_ok hrecs hnp hwd l d (zi_rm d (σ'.2.2.2.1 - σ.2.2.2.1).toNat (σ'.2.2.2.2 - σ.2.2.2.2)) (Nat.le_refl d) (Nat.le_refl _)
          refine zi_run_ok (recs := recs) (σ0 := σ) (res := (x, σ')) hC hpl hnp hwd hck hcut G1 G2 (zi_G_le _ d) ⟨Nat.le_refl _, Nat.le_refl _⟩ ?_ 20000 0 _ [] σ _ s.heap [] 0 0 hlr (fun v hv => absurd hv List.not_mem_nil) ⟨hW, fun q hq => absurd hq List.not_mem_nil, by omega, by omega, Int.le_refl _, Nat.le_refl _⟩ h
          intro pc L st H locs cells slots ins hd hend hst I
          obtain ⟨hW', hlo, rfl, rfl, -, -⟩ := I
          rcases hend with ⟨rfl, rfl, hrk⟩ | ⟨rfl, rfl, hrk⟩ | ⟨rfl, rfl, hx0, hrk⟩
          · have iv : zi_ir x := hst _ List.mem_cons_self
            have hrk' : (r.2.2.2.2.2.2.2 = 1 ∨ (r.2.2.2.2.2.2.2 = 2 ∧ (x = 0 ∨ x = 1))) := hrk
            have hmk : zi_mkv r.2.2.2.2.2.2.2 x = .inl x ∧ zi_rv r.2.2.2.2.2.2.2 x = some (.int (Int32.ofInt x)) := by
              rcases hrk' with q | ⟨q, -⟩ <;> rw [q] <;> exact ⟨rfl, rfl⟩
            have hq : ∀ t : State, t.heap = H → s.WarmedH t.vm → zi_Qc D base r.2.2.2.2.2.2.2 x σ' (vs.map zi_v).toArray s (.returned (some (.int (Int32.ofInt x)))) t := fun t ht hWm => ⟨by rw [hmk.2], by rw [hmk.1]; exact iv, va_K.moved hWm.alike hK, by rw [ht]; exact zi_W.moved hWm.alike hW'⟩
            rcases hrtk with ⟨q, -⟩ | ⟨q, hty⟩ | ⟨q, hty⟩ | ⟨q, -⟩
            · rcases hrk' with z | ⟨z, -⟩ <;> rw [q] at z <;> cases z
            · exact W.zret (ty := .int) hx hb (by rw [hrt, hty]) rfl hq hlo hd hlocks
            · rcases hrk' with z | ⟨-, z⟩
              · rw [q] at z; cases z
              · exact W.zret (ty := .boolean) hx hb (by rw [hrt, hty]) (by rcases z with rfl | rfl <;> decide) hq hlo hd hlocks
            · rcases hrk' with z | ⟨z, -⟩ <;> rw [q] at z <;> cases z
          · have iv : 0 ≤ x := hst _ List.mem_cons_self
            change r.2.2.2.2.2.2.2 = 3 at hrk
            have hq : ∀ t : State, t.heap = H → s.WarmedH t.vm → zi_Qc D base r.2.2.2.2.2.2.2 x σ' (vs.map zi_v).toArray s (.returned (some (zi_v (.inr (.inr x))))) t := fun t ht hWm => ⟨by rw [hrk]; rfl, by rw [hrk]; exact iv, va_K.moved hWm.alike hK, by rw [ht]; exact zi_W.moved hWm.alike hW'⟩
            rcases hrtk with ⟨q, -⟩ | ⟨q, hty⟩ | ⟨q, hty⟩ | ⟨q, n, hty⟩
            · rw [q] at hrk; cases hrk
            · rw [q] at hrk; cases hrk
            · rw [q] at hrk; cases hrk
            · exact W.aret (rt := .object n) (v := zi_v (.inr (.inr x))) hx hb (by rw [hrt, hty]) (Or.inl ⟨n, rfl⟩) (by
                cases hr : zi_ro x with
                | none => exact Or.inl (zi_null hr)
                | some y => exact Or.inr ⟨y, zi_vr hr⟩) hq hlo hd hlocks
          · change x = 0 at hx0
            change r.2.2.2.2.2.2.2 = 0 at hrk
            subst hx0
            have hq : ∀ t : State, t.heap = H → s.WarmedH t.vm → zi_Qc D base r.2.2.2.2.2.2.2 0 σ' (vs.map zi_v).toArray s (.returned none) t := fun t ht hWm => ⟨by rw [hrk]; rfl, by rw [hrk]; exact zi_ir0, va_K.moved hWm.alike hK, by rw [ht]; exact zi_W.moved hWm.alike hW'⟩
            rcases hrtk with ⟨q, hty⟩ | ⟨q, hty⟩ | ⟨q, hty⟩ | ⟨q, n, hty⟩
            · exact W.vret hx hb (by rw [hrt, hty]) hq hlo hd hlocks
            · rw [q] at hrk; cases hrk
            · rw [q] at hrk; cases hrk
            · rw [q] at hrk; cases hrk
    · unfold zi_G at h
      have hb : Nat.ble 1000 a = true := Nat.ble_eq_true_of_le ha
      rw [hb] at h
      exact ⟨h, by omega, by omega⟩
end
