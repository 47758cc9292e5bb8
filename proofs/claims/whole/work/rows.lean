section
-- ===== PART A: goes FIRST, ahead of the names: the tables' words, and 'selects' of the private methods out of them =====
/-- a private method of a class that the tables say can be made, by its rows of tables_1 -/
def lw_okq (q : MethodName × Nat) : Prop := (q.1.cls ≠ "java/lang/invoke/MethodHandle" ∧ q.1.cls ≠ "java/lang/invoke/VarHandle") ∧ Cond.instantiable q.1.cls q.2 ∈ tables_1 ∧ Cond.privateMethod q.1 ∈ tables_1 ∧ Cond.instanceMethod q.1 ∈ tables_1
theorem lw_p0 : lw_okq (⟨"FoldedRows", "layAll", "()V"⟩, 10) := ⟨⟨by decide +kernel, by decide +kernel⟩, List.mem_of_getElem? (i := 17) (by decide +kernel), List.mem_of_getElem? (i := 270) (by decide +kernel), List.mem_of_getElem? (i := 271) (by decide +kernel)⟩
theorem lw_p1 : lw_okq (⟨"FoldedRows$LaidLine", "leadingCells", "(LFoldedRows$Lines;ILFoldedRows$Settings;)I"⟩, 11) := ⟨⟨by decide +kernel, by decide +kernel⟩, List.mem_of_getElem? (i := 172) (by decide +kernel), List.mem_of_getElem? (i := 293) (by decide +kernel), List.mem_of_getElem? (i := 294) (by decide +kernel)⟩
theorem lw_p2 : lw_okq (⟨"FoldedRows$LaidLine", "findBreaks", "(LFoldedRows$Lines;I)V"⟩, 11) := ⟨⟨by decide +kernel, by decide +kernel⟩, List.mem_of_getElem? (i := 172) (by decide +kernel), List.mem_of_getElem? (i := 311) (by decide +kernel), List.mem_of_getElem? (i := 312) (by decide +kernel)⟩
theorem lw_p3 : lw_okq (⟨"FoldedRows$LaidLine", "fillRow", "(LFoldedRows$Lines;IILFoldedRows$Settings;)I"⟩, 11) := ⟨⟨by decide +kernel, by decide +kernel⟩, List.mem_of_getElem? (i := 172) (by decide +kernel), List.mem_of_getElem? (i := 326) (by decide +kernel), List.mem_of_getElem? (i := 327) (by decide +kernel)⟩
theorem lw_p4 : lw_okq (⟨"FoldedRows$LaidLine", "rowEnd", "(II)I"⟩, 11) := ⟨⟨by decide +kernel, by decide +kernel⟩, List.mem_of_getElem? (i := 172) (by decide +kernel), List.mem_of_getElem? (i := 353) (by decide +kernel), List.mem_of_getElem? (i := 354) (by decide +kernel)⟩
theorem lw_p5 : lw_okq (⟨"FoldedRows$LaidLine", "findStops", "(LFoldedRows$Lines;I)V"⟩, 11) := ⟨⟨by decide +kernel, by decide +kernel⟩, List.mem_of_getElem? (i := 172) (by decide +kernel), List.mem_of_getElem? (i := 369) (by decide +kernel), List.mem_of_getElem? (i := 370) (by decide +kernel)⟩
theorem lw_p6 : lw_okq (⟨"FoldedRows", "settleCaret", "()V"⟩, 10) := ⟨⟨by decide +kernel, by decide +kernel⟩, List.mem_of_getElem? (i := 17) (by decide +kernel), List.mem_of_getElem? (i := 373) (by decide +kernel), List.mem_of_getElem? (i := 374) (by decide +kernel)⟩
theorem lw_p7 : lw_okq (⟨"FoldedRows", "moveCaret", "(II)V"⟩, 10) := ⟨⟨by decide +kernel, by decide +kernel⟩, List.mem_of_getElem? (i := 17) (by decide +kernel), List.mem_of_getElem? (i := 386) (by decide +kernel), List.mem_of_getElem? (i := 387) (by decide +kernel)⟩
theorem lw_p8 : lw_okq (⟨"FoldedRows", "caretColumn", "()I"⟩, 10) := ⟨⟨by decide +kernel, by decide +kernel⟩, List.mem_of_getElem? (i := 17) (by decide +kernel), List.mem_of_getElem? (i := 390) (by decide +kernel), List.mem_of_getElem? (i := 391) (by decide +kernel)⟩
theorem lw_p9 : lw_okq (⟨"FoldedRows$Tape", "readByte", "(ILFoldedRows$Frame;)I"⟩, 6) := ⟨⟨by decide +kernel, by decide +kernel⟩, List.mem_of_getElem? (i := 25) (by decide +kernel), List.mem_of_getElem? (i := 461) (by decide +kernel), List.mem_of_getElem? (i := 462) (by decide +kernel)⟩
theorem lw_p10 : lw_okq (⟨"FoldedRows$Tape", "endLine", "(LFoldedRows$Lines;)I"⟩, 6) := ⟨⟨by decide +kernel, by decide +kernel⟩, List.mem_of_getElem? (i := 25) (by decide +kernel), List.mem_of_getElem? (i := 465) (by decide +kernel), List.mem_of_getElem? (i := 466) (by decide +kernel)⟩
theorem lw_p11 : lw_okq (⟨"FoldedRows$Tape", "beginFold", "(I)I"⟩, 6) := ⟨⟨by decide +kernel, by decide +kernel⟩, List.mem_of_getElem? (i := 25) (by decide +kernel), List.mem_of_getElem? (i := 473) (by decide +kernel), List.mem_of_getElem? (i := 474) (by decide +kernel)⟩
theorem lw_p12 : lw_okq (⟨"FoldedRows$Tape", "endFold", "(LFoldedRows$Folds;I)I"⟩, 6) := ⟨⟨by decide +kernel, by decide +kernel⟩, List.mem_of_getElem? (i := 25) (by decide +kernel), List.mem_of_getElem? (i := 477) (by decide +kernel), List.mem_of_getElem? (i := 478) (by decide +kernel)⟩
theorem lw_p13 : lw_okq (⟨"FoldedRows$Folds", "write", "(IIII)V"⟩, 4) := ⟨⟨by decide +kernel, by decide +kernel⟩, List.mem_of_getElem? (i := 112) (by decide +kernel), List.mem_of_getElem? (i := 504) (by decide +kernel), List.mem_of_getElem? (i := 505) (by decide +kernel)⟩
theorem lw_p14 : lw_okq (⟨"FoldedRows", "forgetImage", "(I)V"⟩, 10) := ⟨⟨by decide +kernel, by decide +kernel⟩, List.mem_of_getElem? (i := 17) (by decide +kernel), List.mem_of_getElem? (i := 522) (by decide +kernel), List.mem_of_getElem? (i := 523) (by decide +kernel)⟩
theorem lw_p15 : lw_okq (⟨"FoldedRows", "imageOf", "(I)LFoldedRows$Image;"⟩, 10) := ⟨⟨by decide +kernel, by decide +kernel⟩, List.mem_of_getElem? (i := 17) (by decide +kernel), List.mem_of_getElem? (i := 526) (by decide +kernel), List.mem_of_getElem? (i := 527) (by decide +kernel)⟩
def lw_privs_1 : List (MethodName × Nat) := [(⟨"FoldedRows", "layAll", "()V"⟩, 10), (⟨"FoldedRows$LaidLine", "leadingCells", "(LFoldedRows$Lines;ILFoldedRows$Settings;)I"⟩, 11), (⟨"FoldedRows$LaidLine", "findBreaks", "(LFoldedRows$Lines;I)V"⟩, 11), (⟨"FoldedRows$LaidLine", "fillRow", "(LFoldedRows$Lines;IILFoldedRows$Settings;)I"⟩, 11), (⟨"FoldedRows$LaidLine", "rowEnd", "(II)I"⟩, 11), (⟨"FoldedRows$LaidLine", "findStops", "(LFoldedRows$Lines;I)V"⟩, 11), (⟨"FoldedRows", "settleCaret", "()V"⟩, 10), (⟨"FoldedRows", "moveCaret", "(II)V"⟩, 10), (⟨"FoldedRows", "caretColumn", "()I"⟩, 10), (⟨"FoldedRows$Tape", "readByte", "(ILFoldedRows$Frame;)I"⟩, 6), (⟨"FoldedRows$Tape", "endLine", "(LFoldedRows$Lines;)I"⟩, 6), (⟨"FoldedRows$Tape", "beginFold", "(I)I"⟩, 6), (⟨"FoldedRows$Tape", "endFold", "(LFoldedRows$Folds;I)I"⟩, 6), (⟨"FoldedRows$Folds", "write", "(IIII)V"⟩, 4), (⟨"FoldedRows", "forgetImage", "(I)V"⟩, 10), (⟨"FoldedRows", "imageOf", "(I)LFoldedRows$Image;"⟩, 10)]
theorem lw_r1 : ∀ q ∈ lw_privs_1, lw_okq q := List.forall_mem_cons.mpr ⟨lw_p0, List.forall_mem_cons.mpr ⟨lw_p1, List.forall_mem_cons.mpr ⟨lw_p2, List.forall_mem_cons.mpr ⟨lw_p3, List.forall_mem_cons.mpr ⟨lw_p4, List.forall_mem_cons.mpr ⟨lw_p5, List.forall_mem_cons.mpr ⟨lw_p6, List.forall_mem_cons.mpr ⟨lw_p7, List.forall_mem_cons.mpr ⟨lw_p8, List.forall_mem_cons.mpr ⟨lw_p9, List.forall_mem_cons.mpr ⟨lw_p10, List.forall_mem_cons.mpr ⟨lw_p11, List.forall_mem_cons.mpr ⟨lw_p12, List.forall_mem_cons.mpr ⟨lw_p13, List.forall_mem_cons.mpr ⟨lw_p14, List.forall_mem_cons.mpr ⟨lw_p15, fun _ h => absurd h List.not_mem_nil⟩⟩⟩⟩⟩⟩⟩⟩⟩⟩⟩⟩⟩⟩⟩⟩
theorem lw_p16 : lw_okq (⟨"FoldedRows", "imageCount", "()I"⟩, 10) := ⟨⟨by decide +kernel, by decide +kernel⟩, List.mem_of_getElem? (i := 17) (by decide +kernel), List.mem_of_getElem? (i := 572) (by decide +kernel), List.mem_of_getElem? (i := 573) (by decide +kernel)⟩
theorem lw_p17 : lw_okq (⟨"FoldedRows", "caretRow", "()I"⟩, 10) := ⟨⟨by decide +kernel, by decide +kernel⟩, List.mem_of_getElem? (i := 17) (by decide +kernel), List.mem_of_getElem? (i := 671) (by decide +kernel), List.mem_of_getElem? (i := 672) (by decide +kernel)⟩
theorem lw_p18 : lw_okq (⟨"FoldedRows$History", "dropOldest", "()V"⟩, 3) := ⟨⟨by decide +kernel, by decide +kernel⟩, List.mem_of_getElem? (i := 79) (by decide +kernel), List.mem_of_getElem? (i := 726) (by decide +kernel), List.mem_of_getElem? (i := 727) (by decide +kernel)⟩
theorem lw_p19 : lw_okq (⟨"FoldedRows$Lines", "writeSign", "(III)V"⟩, 3) := ⟨⟨by decide +kernel, by decide +kernel⟩, List.mem_of_getElem? (i := 92) (by decide +kernel), List.mem_of_getElem? (i := 755) (by decide +kernel), List.mem_of_getElem? (i := 756) (by decide +kernel)⟩
theorem lw_p20 : lw_okq (⟨"FoldedRows", "layCaretLine", "()V"⟩, 10) := ⟨⟨by decide +kernel, by decide +kernel⟩, List.mem_of_getElem? (i := 17) (by decide +kernel), List.mem_of_getElem? (i := 759) (by decide +kernel), List.mem_of_getElem? (i := 760) (by decide +kernel)⟩
theorem lw_p21 : lw_okq (⟨"FoldedRows", "joinWithLineAhead", "()I"⟩, 10) := ⟨⟨by decide +kernel, by decide +kernel⟩, List.mem_of_getElem? (i := 17) (by decide +kernel), List.mem_of_getElem? (i := 768) (by decide +kernel), List.mem_of_getElem? (i := 769) (by decide +kernel)⟩
theorem lw_p22 : lw_okq (⟨"FoldedRows$Lines", "appendPart", "(III)V"⟩, 3) := ⟨⟨by decide +kernel, by decide +kernel⟩, List.mem_of_getElem? (i := 92) (by decide +kernel), List.mem_of_getElem? (i := 776) (by decide +kernel), List.mem_of_getElem? (i := 777) (by decide +kernel)⟩
theorem lw_p23 : lw_okq (⟨"FoldedRows$Lines", "copyLine", "(II)V"⟩, 3) := ⟨⟨by decide +kernel, by decide +kernel⟩, List.mem_of_getElem? (i := 92) (by decide +kernel), List.mem_of_getElem? (i := 781) (by decide +kernel), List.mem_of_getElem? (i := 782) (by decide +kernel)⟩
theorem lw_p24 : lw_okq (⟨"FoldedRows$History", "exchange", "(ILFoldedRows$Frame;)LFoldedRows$Frame;"⟩, 3) := ⟨⟨by decide +kernel, by decide +kernel⟩, List.mem_of_getElem? (i := 79) (by decide +kernel), List.mem_of_getElem? (i := 819) (by decide +kernel), List.mem_of_getElem? (i := 820) (by decide +kernel)⟩
theorem lw_p25 : lw_okq (⟨"FoldedRows", "sheetOf", "(I)LFoldedRows$Sheet;"⟩, 10) := ⟨⟨by decide +kernel, by decide +kernel⟩, List.mem_of_getElem? (i := 17) (by decide +kernel), List.mem_of_getElem? (i := 881) (by decide +kernel), List.mem_of_getElem? (i := 882) (by decide +kernel)⟩
theorem lw_p26 : lw_okq (⟨"FoldedRows$Sheet", "lowestBits", "(I)I"⟩, 4) := ⟨⟨by decide +kernel, by decide +kernel⟩, List.mem_of_getElem? (i := 249) (by decide +kernel), List.mem_of_getElem? (i := 901) (by decide +kernel), List.mem_of_getElem? (i := 902) (by decide +kernel)⟩
theorem lw_p27 : lw_okq (⟨"FoldedRowsModel", "faultOfByte", "(I)I"⟩, 29) := ⟨⟨by decide +kernel, by decide +kernel⟩, List.mem_of_getElem? (i := 920) (by decide +kernel), List.mem_of_getElem? (i := 1031) (by decide +kernel), List.mem_of_getElem? (i := 1032) (by decide +kernel)⟩
theorem lw_p28 : lw_okq (⟨"FoldedRowsModel", "faultOfSign", "(I)I"⟩, 29) := ⟨⟨by decide +kernel, by decide +kernel⟩, List.mem_of_getElem? (i := 920) (by decide +kernel), List.mem_of_getElem? (i := 1048) (by decide +kernel), List.mem_of_getElem? (i := 1049) (by decide +kernel)⟩
theorem lw_p29 : lw_okq (⟨"FoldedRowsModel", "faultOfEnd", "()I"⟩, 29) := ⟨⟨by decide +kernel, by decide +kernel⟩, List.mem_of_getElem? (i := 920) (by decide +kernel), List.mem_of_getElem? (i := 1052) (by decide +kernel), List.mem_of_getElem? (i := 1053) (by decide +kernel)⟩
theorem lw_p30 : lw_okq (⟨"FoldedRowsModel", "signs", "()I"⟩, 29) := ⟨⟨by decide +kernel, by decide +kernel⟩, List.mem_of_getElem? (i := 920) (by decide +kernel), List.mem_of_getElem? (i := 1076) (by decide +kernel), List.mem_of_getElem? (i := 1077) (by decide +kernel)⟩
theorem lw_p31 : lw_okq (⟨"FoldedRowsModel", "lengthOf", "(I)I"⟩, 29) := ⟨⟨by decide +kernel, by decide +kernel⟩, List.mem_of_getElem? (i := 920) (by decide +kernel), List.mem_of_getElem? (i := 1080) (by decide +kernel), List.mem_of_getElem? (i := 1081) (by decide +kernel)⟩
def lw_privs_2 : List (MethodName × Nat) := [(⟨"FoldedRows", "imageCount", "()I"⟩, 10), (⟨"FoldedRows", "caretRow", "()I"⟩, 10), (⟨"FoldedRows$History", "dropOldest", "()V"⟩, 3), (⟨"FoldedRows$Lines", "writeSign", "(III)V"⟩, 3), (⟨"FoldedRows", "layCaretLine", "()V"⟩, 10), (⟨"FoldedRows", "joinWithLineAhead", "()I"⟩, 10), (⟨"FoldedRows$Lines", "appendPart", "(III)V"⟩, 3), (⟨"FoldedRows$Lines", "copyLine", "(II)V"⟩, 3), (⟨"FoldedRows$History", "exchange", "(ILFoldedRows$Frame;)LFoldedRows$Frame;"⟩, 3), (⟨"FoldedRows", "sheetOf", "(I)LFoldedRows$Sheet;"⟩, 10), (⟨"FoldedRows$Sheet", "lowestBits", "(I)I"⟩, 4), (⟨"FoldedRowsModel", "faultOfByte", "(I)I"⟩, 29), (⟨"FoldedRowsModel", "faultOfSign", "(I)I"⟩, 29), (⟨"FoldedRowsModel", "faultOfEnd", "()I"⟩, 29), (⟨"FoldedRowsModel", "signs", "()I"⟩, 29), (⟨"FoldedRowsModel", "lengthOf", "(I)I"⟩, 29)]
theorem lw_r2 : ∀ q ∈ lw_privs_2, lw_okq q := List.forall_mem_cons.mpr ⟨lw_p16, List.forall_mem_cons.mpr ⟨lw_p17, List.forall_mem_cons.mpr ⟨lw_p18, List.forall_mem_cons.mpr ⟨lw_p19, List.forall_mem_cons.mpr ⟨lw_p20, List.forall_mem_cons.mpr ⟨lw_p21, List.forall_mem_cons.mpr ⟨lw_p22, List.forall_mem_cons.mpr ⟨lw_p23, List.forall_mem_cons.mpr ⟨lw_p24, List.forall_mem_cons.mpr ⟨lw_p25, List.forall_mem_cons.mpr ⟨lw_p26, List.forall_mem_cons.mpr ⟨lw_p27, List.forall_mem_cons.mpr ⟨lw_p28, List.forall_mem_cons.mpr ⟨lw_p29, List.forall_mem_cons.mpr ⟨lw_p30, List.forall_mem_cons.mpr ⟨lw_p31, fun _ h => absurd h List.not_mem_nil⟩⟩⟩⟩⟩⟩⟩⟩⟩⟩⟩⟩⟩⟩⟩⟩
theorem lw_p32 : lw_okq (⟨"FoldedRowsModel", "screenRows", "()I"⟩, 29) := ⟨⟨by decide +kernel, by decide +kernel⟩, List.mem_of_getElem? (i := 920) (by decide +kernel), List.mem_of_getElem? (i := 1084) (by decide +kernel), List.mem_of_getElem? (i := 1085) (by decide +kernel)⟩
theorem lw_p33 : lw_okq (⟨"FoldedRowsModel", "firstRow", "(I)I"⟩, 29) := ⟨⟨by decide +kernel, by decide +kernel⟩, List.mem_of_getElem? (i := 920) (by decide +kernel), List.mem_of_getElem? (i := 1088) (by decide +kernel), List.mem_of_getElem? (i := 1089) (by decide +kernel)⟩
theorem lw_p34 : lw_okq (⟨"FoldedRowsModel", "isHidden", "(I)Z"⟩, 29) := ⟨⟨by decide +kernel, by decide +kernel⟩, List.mem_of_getElem? (i := 920) (by decide +kernel), List.mem_of_getElem? (i := 1092) (by decide +kernel), List.mem_of_getElem? (i := 1093) (by decide +kernel)⟩
theorem lw_p35 : lw_okq (⟨"FoldedRowsModel", "isShut", "(I)Z"⟩, 29) := ⟨⟨by decide +kernel, by decide +kernel⟩, List.mem_of_getElem? (i := 920) (by decide +kernel), List.mem_of_getElem? (i := 1096) (by decide +kernel), List.mem_of_getElem? (i := 1097) (by decide +kernel)⟩
theorem lw_p36 : lw_okq (⟨"FoldedRowsModel", "firstOf", "(I)I"⟩, 29) := ⟨⟨by decide +kernel, by decide +kernel⟩, List.mem_of_getElem? (i := 920) (by decide +kernel), List.mem_of_getElem? (i := 1100) (by decide +kernel), List.mem_of_getElem? (i := 1101) (by decide +kernel)⟩
theorem lw_p37 : lw_okq (⟨"FoldedRowsModel", "lastOf", "(I)I"⟩, 29) := ⟨⟨by decide +kernel, by decide +kernel⟩, List.mem_of_getElem? (i := 920) (by decide +kernel), List.mem_of_getElem? (i := 1104) (by decide +kernel), List.mem_of_getElem? (i := 1105) (by decide +kernel)⟩
theorem lw_p38 : lw_okq (⟨"FoldedRowsModel", "rowsOf", "(I)I"⟩, 29) := ⟨⟨by decide +kernel, by decide +kernel⟩, List.mem_of_getElem? (i := 920) (by decide +kernel), List.mem_of_getElem? (i := 1108) (by decide +kernel), List.mem_of_getElem? (i := 1109) (by decide +kernel)⟩
theorem lw_p39 : lw_okq (⟨"FoldedRowsModel", "lays", "(I)V"⟩, 29) := ⟨⟨by decide +kernel, by decide +kernel⟩, List.mem_of_getElem? (i := 920) (by decide +kernel), List.mem_of_getElem? (i := 1112) (by decide +kernel), List.mem_of_getElem? (i := 1113) (by decide +kernel)⟩
theorem lw_p40 : lw_okq (⟨"FoldedRowsModel", "indentOf", "(I)I"⟩, 29) := ⟨⟨by decide +kernel, by decide +kernel⟩, List.mem_of_getElem? (i := 920) (by decide +kernel), List.mem_of_getElem? (i := 1116) (by decide +kernel), List.mem_of_getElem? (i := 1117) (by decide +kernel)⟩
theorem lw_p41 : lw_okq (⟨"FoldedRowsModel", "signOf", "(II)I"⟩, 29) := ⟨⟨by decide +kernel, by decide +kernel⟩, List.mem_of_getElem? (i := 920) (by decide +kernel), List.mem_of_getElem? (i := 1120) (by decide +kernel), List.mem_of_getElem? (i := 1121) (by decide +kernel)⟩
theorem lw_p42 : lw_okq (⟨"FoldedRowsModel", "cellsOf", "(III)I"⟩, 29) := ⟨⟨by decide +kernel, by decide +kernel⟩, List.mem_of_getElem? (i := 920) (by decide +kernel), List.mem_of_getElem? (i := 1124) (by decide +kernel), List.mem_of_getElem? (i := 1125) (by decide +kernel)⟩
theorem lw_p43 : lw_okq (⟨"FoldedRowsModel", "begins", "(I)V"⟩, 29) := ⟨⟨by decide +kernel, by decide +kernel⟩, List.mem_of_getElem? (i := 920) (by decide +kernel), List.mem_of_getElem? (i := 1128) (by decide +kernel), List.mem_of_getElem? (i := 1129) (by decide +kernel)⟩
theorem lw_p44 : lw_okq (⟨"FoldedRowsModel", "laysSign", "(IIIZ)V"⟩, 29) := ⟨⟨by decide +kernel, by decide +kernel⟩, List.mem_of_getElem? (i := 920) (by decide +kernel), List.mem_of_getElem? (i := 1132) (by decide +kernel), List.mem_of_getElem? (i := 1133) (by decide +kernel)⟩
theorem lw_p45 : lw_okq (⟨"FoldedRowsModel", "endOfRow", "(III)I"⟩, 29) := ⟨⟨by decide +kernel, by decide +kernel⟩, List.mem_of_getElem? (i := 920) (by decide +kernel), List.mem_of_getElem? (i := 1136) (by decide +kernel), List.mem_of_getElem? (i := 1137) (by decide +kernel)⟩
theorem lw_p46 : lw_okq (⟨"FoldedRowsModel", "isBreak", "(II)Z"⟩, 29) := ⟨⟨by decide +kernel, by decide +kernel⟩, List.mem_of_getElem? (i := 920) (by decide +kernel), List.mem_of_getElem? (i := 1140) (by decide +kernel), List.mem_of_getElem? (i := 1141) (by decide +kernel)⟩
theorem lw_p47 : lw_okq (⟨"FoldedRowsModel", "hiddenLines", "()I"⟩, 29) := ⟨⟨by decide +kernel, by decide +kernel⟩, List.mem_of_getElem? (i := 920) (by decide +kernel), List.mem_of_getElem? (i := 1144) (by decide +kernel), List.mem_of_getElem? (i := 1145) (by decide +kernel)⟩
def lw_privs_3 : List (MethodName × Nat) := [(⟨"FoldedRowsModel", "screenRows", "()I"⟩, 29), (⟨"FoldedRowsModel", "firstRow", "(I)I"⟩, 29), (⟨"FoldedRowsModel", "isHidden", "(I)Z"⟩, 29), (⟨"FoldedRowsModel", "isShut", "(I)Z"⟩, 29), (⟨"FoldedRowsModel", "firstOf", "(I)I"⟩, 29), (⟨"FoldedRowsModel", "lastOf", "(I)I"⟩, 29), (⟨"FoldedRowsModel", "rowsOf", "(I)I"⟩, 29), (⟨"FoldedRowsModel", "lays", "(I)V"⟩, 29), (⟨"FoldedRowsModel", "indentOf", "(I)I"⟩, 29), (⟨"FoldedRowsModel", "signOf", "(II)I"⟩, 29), (⟨"FoldedRowsModel", "cellsOf", "(III)I"⟩, 29), (⟨"FoldedRowsModel", "begins", "(I)V"⟩, 29), (⟨"FoldedRowsModel", "laysSign", "(IIIZ)V"⟩, 29), (⟨"FoldedRowsModel", "endOfRow", "(III)I"⟩, 29), (⟨"FoldedRowsModel", "isBreak", "(II)Z"⟩, 29), (⟨"FoldedRowsModel", "hiddenLines", "()I"⟩, 29)]
theorem lw_r3 : ∀ q ∈ lw_privs_3, lw_okq q := List.forall_mem_cons.mpr ⟨lw_p32, List.forall_mem_cons.mpr ⟨lw_p33, List.forall_mem_cons.mpr ⟨lw_p34, List.forall_mem_cons.mpr ⟨lw_p35, List.forall_mem_cons.mpr ⟨lw_p36, List.forall_mem_cons.mpr ⟨lw_p37, List.forall_mem_cons.mpr ⟨lw_p38, List.forall_mem_cons.mpr ⟨lw_p39, List.forall_mem_cons.mpr ⟨lw_p40, List.forall_mem_cons.mpr ⟨lw_p41, List.forall_mem_cons.mpr ⟨lw_p42, List.forall_mem_cons.mpr ⟨lw_p43, List.forall_mem_cons.mpr ⟨lw_p44, List.forall_mem_cons.mpr ⟨lw_p45, List.forall_mem_cons.mpr ⟨lw_p46, List.forall_mem_cons.mpr ⟨lw_p47, fun _ h => absurd h List.not_mem_nil⟩⟩⟩⟩⟩⟩⟩⟩⟩⟩⟩⟩⟩⟩⟩⟩
theorem lw_p48 : lw_okq (⟨"FoldedRowsModel", "shutFolds", "()I"⟩, 29) := ⟨⟨by decide +kernel, by decide +kernel⟩, List.mem_of_getElem? (i := 920) (by decide +kernel), List.mem_of_getElem? (i := 1148) (by decide +kernel), List.mem_of_getElem? (i := 1149) (by decide +kernel)⟩
theorem lw_p49 : lw_okq (⟨"FoldedRowsModel", "isLine", "(I)Z"⟩, 29) := ⟨⟨by decide +kernel, by decide +kernel⟩, List.mem_of_getElem? (i := 920) (by decide +kernel), List.mem_of_getElem? (i := 1156) (by decide +kernel), List.mem_of_getElem? (i := 1157) (by decide +kernel)⟩
theorem lw_p50 : lw_okq (⟨"FoldedRowsModel", "counted", "(II)I"⟩, 29) := ⟨⟨by decide +kernel, by decide +kernel⟩, List.mem_of_getElem? (i := 920) (by decide +kernel), List.mem_of_getElem? (i := 1165) (by decide +kernel), List.mem_of_getElem? (i := 1166) (by decide +kernel)⟩
theorem lw_p51 : lw_okq (⟨"FoldedRowsModel", "isStop", "(II)Z"⟩, 29) := ⟨⟨by decide +kernel, by decide +kernel⟩, List.mem_of_getElem? (i := 920) (by decide +kernel), List.mem_of_getElem? (i := 1169) (by decide +kernel), List.mem_of_getElem? (i := 1170) (by decide +kernel)⟩
theorem lw_p52 : lw_okq (⟨"FoldedRowsModel", "isRow", "(I)Z"⟩, 29) := ⟨⟨by decide +kernel, by decide +kernel⟩, List.mem_of_getElem? (i := 920) (by decide +kernel), List.mem_of_getElem? (i := 1177) (by decide +kernel), List.mem_of_getElem? (i := 1178) (by decide +kernel)⟩
theorem lw_p53 : lw_okq (⟨"FoldedRowsModel", "lineOfRow", "(I)I"⟩, 29) := ⟨⟨by decide +kernel, by decide +kernel⟩, List.mem_of_getElem? (i := 920) (by decide +kernel), List.mem_of_getElem? (i := 1182) (by decide +kernel), List.mem_of_getElem? (i := 1183) (by decide +kernel)⟩
theorem lw_p54 : lw_okq (⟨"FoldedRowsModel", "endColumn", "(I)I"⟩, 29) := ⟨⟨by decide +kernel, by decide +kernel⟩, List.mem_of_getElem? (i := 920) (by decide +kernel), List.mem_of_getElem? (i := 1186) (by decide +kernel), List.mem_of_getElem? (i := 1187) (by decide +kernel)⟩
theorem lw_p55 : lw_okq (⟨"FoldedRowsModel", "placeOf", "(III)I"⟩, 29) := ⟨⟨by decide +kernel, by decide +kernel⟩, List.mem_of_getElem? (i := 920) (by decide +kernel), List.mem_of_getElem? (i := 1203) (by decide +kernel), List.mem_of_getElem? (i := 1204) (by decide +kernel)⟩
theorem lw_p56 : lw_okq (⟨"FoldedRowsModel", "caretRow", "()I"⟩, 29) := ⟨⟨by decide +kernel, by decide +kernel⟩, List.mem_of_getElem? (i := 920) (by decide +kernel), List.mem_of_getElem? (i := 1215) (by decide +kernel), List.mem_of_getElem? (i := 1216) (by decide +kernel)⟩
theorem lw_p57 : lw_okq (⟨"FoldedRowsModel", "caretColumn", "()I"⟩, 29) := ⟨⟨by decide +kernel, by decide +kernel⟩, List.mem_of_getElem? (i := 920) (by decide +kernel), List.mem_of_getElem? (i := 1219) (by decide +kernel), List.mem_of_getElem? (i := 1220) (by decide +kernel)⟩
theorem lw_p58 : lw_okq (⟨"FoldedRowsModel", "settles", "()V"⟩, 29) := ⟨⟨by decide +kernel, by decide +kernel⟩, List.mem_of_getElem? (i := 920) (by decide +kernel), List.mem_of_getElem? (i := 1227) (by decide +kernel), List.mem_of_getElem? (i := 1228) (by decide +kernel)⟩
theorem lw_p59 : lw_okq (⟨"FoldedRowsModel", "stopAhead", "(II)I"⟩, 29) := ⟨⟨by decide +kernel, by decide +kernel⟩, List.mem_of_getElem? (i := 920) (by decide +kernel), List.mem_of_getElem? (i := 1235) (by decide +kernel), List.mem_of_getElem? (i := 1236) (by decide +kernel)⟩
theorem lw_p60 : lw_okq (⟨"FoldedRowsModel", "stopBehind", "(II)I"⟩, 29) := ⟨⟨by decide +kernel, by decide +kernel⟩, List.mem_of_getElem? (i := 920) (by decide +kernel), List.mem_of_getElem? (i := 1239) (by decide +kernel), List.mem_of_getElem? (i := 1240) (by decide +kernel)⟩
theorem lw_p61 : lw_okq (⟨"FoldedRowsModel", "edits", "()V"⟩, 29) := ⟨⟨by decide +kernel, by decide +kernel⟩, List.mem_of_getElem? (i := 920) (by decide +kernel), List.mem_of_getElem? (i := 1258) (by decide +kernel), List.mem_of_getElem? (i := 1259) (by decide +kernel)⟩
theorem lw_p62 : lw_okq (⟨"FoldedRowsModel", "isDone", "()V"⟩, 29) := ⟨⟨by decide +kernel, by decide +kernel⟩, List.mem_of_getElem? (i := 920) (by decide +kernel), List.mem_of_getElem? (i := 1262) (by decide +kernel), List.mem_of_getElem? (i := 1263) (by decide +kernel)⟩
theorem lw_p63 : lw_okq (⟨"FoldedRowsModel", "spreads", "(I)V"⟩, 29) := ⟨⟨by decide +kernel, by decide +kernel⟩, List.mem_of_getElem? (i := 920) (by decide +kernel), List.mem_of_getElem? (i := 1269) (by decide +kernel), List.mem_of_getElem? (i := 1270) (by decide +kernel)⟩
def lw_privs_4 : List (MethodName × Nat) := [(⟨"FoldedRowsModel", "shutFolds", "()I"⟩, 29), (⟨"FoldedRowsModel", "isLine", "(I)Z"⟩, 29), (⟨"FoldedRowsModel", "counted", "(II)I"⟩, 29), (⟨"FoldedRowsModel", "isStop", "(II)Z"⟩, 29), (⟨"FoldedRowsModel", "isRow", "(I)Z"⟩, 29), (⟨"FoldedRowsModel", "lineOfRow", "(I)I"⟩, 29), (⟨"FoldedRowsModel", "endColumn", "(I)I"⟩, 29), (⟨"FoldedRowsModel", "placeOf", "(III)I"⟩, 29), (⟨"FoldedRowsModel", "caretRow", "()I"⟩, 29), (⟨"FoldedRowsModel", "caretColumn", "()I"⟩, 29), (⟨"FoldedRowsModel", "settles", "()V"⟩, 29), (⟨"FoldedRowsModel", "stopAhead", "(II)I"⟩, 29), (⟨"FoldedRowsModel", "stopBehind", "(II)I"⟩, 29), (⟨"FoldedRowsModel", "edits", "()V"⟩, 29), (⟨"FoldedRowsModel", "isDone", "()V"⟩, 29), (⟨"FoldedRowsModel", "spreads", "(I)V"⟩, 29)]
theorem lw_r4 : ∀ q ∈ lw_privs_4, lw_okq q := List.forall_mem_cons.mpr ⟨lw_p48, List.forall_mem_cons.mpr ⟨lw_p49, List.forall_mem_cons.mpr ⟨lw_p50, List.forall_mem_cons.mpr ⟨lw_p51, List.forall_mem_cons.mpr ⟨lw_p52, List.forall_mem_cons.mpr ⟨lw_p53, List.forall_mem_cons.mpr ⟨lw_p54, List.forall_mem_cons.mpr ⟨lw_p55, List.forall_mem_cons.mpr ⟨lw_p56, List.forall_mem_cons.mpr ⟨lw_p57, List.forall_mem_cons.mpr ⟨lw_p58, List.forall_mem_cons.mpr ⟨lw_p59, List.forall_mem_cons.mpr ⟨lw_p60, List.forall_mem_cons.mpr ⟨lw_p61, List.forall_mem_cons.mpr ⟨lw_p62, List.forall_mem_cons.mpr ⟨lw_p63, fun _ h => absurd h List.not_mem_nil⟩⟩⟩⟩⟩⟩⟩⟩⟩⟩⟩⟩⟩⟩⟩⟩
theorem lw_p64 : lw_okq (⟨"FoldedRowsModel", "erases", "()I"⟩, 29) := ⟨⟨by decide +kernel, by decide +kernel⟩, List.mem_of_getElem? (i := 920) (by decide +kernel), List.mem_of_getElem? (i := 1277) (by decide +kernel), List.mem_of_getElem? (i := 1278) (by decide +kernel)⟩
theorem lw_p65 : lw_okq (⟨"FoldedRowsModel", "joins", "()I"⟩, 29) := ⟨⟨by decide +kernel, by decide +kernel⟩, List.mem_of_getElem? (i := 920) (by decide +kernel), List.mem_of_getElem? (i := 1281) (by decide +kernel), List.mem_of_getElem? (i := 1282) (by decide +kernel)⟩
theorem lw_p66 : lw_okq (⟨"FoldedRowsModel", "copiesLine", "(II)V"⟩, 29) := ⟨⟨by decide +kernel, by decide +kernel⟩, List.mem_of_getElem? (i := 920) (by decide +kernel), List.mem_of_getElem? (i := 1285) (by decide +kernel), List.mem_of_getElem? (i := 1286) (by decide +kernel)⟩
theorem lw_p67 : lw_okq (⟨"FoldedRowsModel", "joinsFolds", "(I)V"⟩, 29) := ⟨⟨by decide +kernel, by decide +kernel⟩, List.mem_of_getElem? (i := 920) (by decide +kernel), List.mem_of_getElem? (i := 1289) (by decide +kernel), List.mem_of_getElem? (i := 1290) (by decide +kernel)⟩
theorem lw_p68 : lw_okq (⟨"FoldedRowsModel", "isShutAt", "(I)Z"⟩, 29) := ⟨⟨by decide +kernel, by decide +kernel⟩, List.mem_of_getElem? (i := 920) (by decide +kernel), List.mem_of_getElem? (i := 1297) (by decide +kernel), List.mem_of_getElem? (i := 1298) (by decide +kernel)⟩
theorem lw_p69 : lw_okq (⟨"FoldedRowsModel", "isFold", "(I)Z"⟩, 29) := ⟨⟨by decide +kernel, by decide +kernel⟩, List.mem_of_getElem? (i := 920) (by decide +kernel), List.mem_of_getElem? (i := 1317) (by decide +kernel), List.mem_of_getElem? (i := 1318) (by decide +kernel)⟩
theorem lw_p70 : lw_okq (⟨"FoldedRowsModel", "setting", "(I)I"⟩, 29) := ⟨⟨by decide +kernel, by decide +kernel⟩, List.mem_of_getElem? (i := 920) (by decide +kernel), List.mem_of_getElem? (i := 1333) (by decide +kernel), List.mem_of_getElem? (i := 1334) (by decide +kernel)⟩
theorem lw_p71 : lw_okq (⟨"FoldedRowsModel", "sets", "(II)V"⟩, 29) := ⟨⟨by decide +kernel, by decide +kernel⟩, List.mem_of_getElem? (i := 920) (by decide +kernel), List.mem_of_getElem? (i := 1337) (by decide +kernel), List.mem_of_getElem? (i := 1338) (by decide +kernel)⟩
def lw_privs_5 : List (MethodName × Nat) := [(⟨"FoldedRowsModel", "erases", "()I"⟩, 29), (⟨"FoldedRowsModel", "joins", "()I"⟩, 29), (⟨"FoldedRowsModel", "copiesLine", "(II)V"⟩, 29), (⟨"FoldedRowsModel", "joinsFolds", "(I)V"⟩, 29), (⟨"FoldedRowsModel", "isShutAt", "(I)Z"⟩, 29), (⟨"FoldedRowsModel", "isFold", "(I)Z"⟩, 29), (⟨"FoldedRowsModel", "setting", "(I)I"⟩, 29), (⟨"FoldedRowsModel", "sets", "(II)V"⟩, 29)]
theorem lw_r5 : ∀ q ∈ lw_privs_5, lw_okq q := List.forall_mem_cons.mpr ⟨lw_p64, List.forall_mem_cons.mpr ⟨lw_p65, List.forall_mem_cons.mpr ⟨lw_p66, List.forall_mem_cons.mpr ⟨lw_p67, List.forall_mem_cons.mpr ⟨lw_p68, List.forall_mem_cons.mpr ⟨lw_p69, List.forall_mem_cons.mpr ⟨lw_p70, List.forall_mem_cons.mpr ⟨lw_p71, fun _ h => absurd h List.not_mem_nil⟩⟩⟩⟩⟩⟩⟩⟩
def lw_privs : List (MethodName × Nat) := lw_privs_1 ++ (lw_privs_2 ++ (lw_privs_3 ++ (lw_privs_4 ++ (lw_privs_5))))
def lw_tbl : List Cond := k2_sels lw_privs ++ tables_1
theorem lw_privs_ok : ∀ q ∈ lw_privs, lw_okq q := by
  show ∀ q ∈ lw_privs_1 ++ (lw_privs_2 ++ (lw_privs_3 ++ (lw_privs_4 ++ (lw_privs_5)))), lw_okq q
  exact List.forall_mem_append.mpr ⟨lw_r1, List.forall_mem_append.mpr ⟨lw_r2, List.forall_mem_append.mpr ⟨lw_r3, List.forall_mem_append.mpr ⟨lw_r4, lw_r5⟩⟩⟩⟩
end
section
/-! A small machine of whole numbers: what a method does to a memory of whole numbers, as a function. -/
abbrev zV : Type := Int ⊕ Int ⊕ Int
abbrev zM : Type := (Int → Nat × Int) × (Int → Int → Int) × Int × Nat
abbrev zL : Type := List (Option zV)
abbrev zR : Type := Option (Int × zM)
abbrev zC : Type := Nat × Instr × Nat × Int × List (Int × Nat)
abbrev zT : Type := List zC × List (Nat × List Bool) × Nat × Nat
def zi_w (x : Int) : Int := (x + 2147483648) % 4294967296 - 2147483648
def zi_w64 (x : Int) : Int := (x + 9223372036854775808) % 18446744073709551616 - 9223372036854775808
def zi_rem (x y : Int) : Int := zi_w (x - zi_w (zi_w (x.tdiv y) * y))
def zi_div (x y : Int) : Int := zi_w (x.tdiv y)
def zi_and (x y : Int) : Int := (Int32.ofInt x &&& Int32.ofInt y).toInt
def zi_i2b (x : Int) : Int := (Int32.ofInt x).toInt8.toInt32.toInt
def zi_i2s (x : Int) : Int := (Int32.ofInt x).toInt16.toInt32.toInt
def zi_i2c (x : Int) : Int := ((Int32.ofInt x).toUInt32 % 65536).toInt32.toInt
def zi_find : List zC → Nat → Option (Instr × Nat × Int × List (Int × Nat))
  | [], _ => none
  | c :: r, pc => bif Nat.beq c.1 pc then some c.2 else zi_find r pc
def zi_cut : List (Nat × List Bool) → Nat → Option (List Bool)
  | [], _ => none
  | c :: r, pc => bif Nat.beq c.1 pc then some c.2 else zi_cut r pc
def zi_mask : List Bool → zL → zL
  | [], _ => []
  | _, [] => []
  | b :: m, v :: l => (bif b then v else none) :: zi_mask m l
def zi_get : zL → Nat → Option zV
  | [], _ => none
  | v :: _, 0 => v
  | _ :: l, i + 1 => zi_get l i
def zi_set : zL → Nat → zV → Option zL
  | [], _, _ => none
  | _ :: l, 0, v => some (some v :: l)
  | some (.inr (.inl x)) :: l, i + 1, v => match i with
    | 0 => none
    | i + 1 => (zi_set l (i + 1) v).map fun l' => some (.inr (.inl x)) :: l'
  | w :: l, i + 1, v => (zi_set l i v).map fun l' => w :: l'
def zi_ro (x : Int) : Option Nat := if x ≤ 0 then none else some (x.toNat - 1)
def zi_c1 : zV → Bool
  | .inr (.inl _) => false
  | _ => true
def zi_cats : List zV → Nat
  | [] => 0
  | .inr (.inl _) :: r => 2 + zi_cats r
  | _ :: r => 1 + zi_cats r
def zi_take : Nat → List zV → List zV → Option (List zV × List zV)
  | 0, acc, st => some (acc, st)
  | _ + 1, _, [] => none
  | n + 1, acc, v :: st => zi_take n (v :: acc) st
def zi_mkv (t : Nat) (x : Int) : zV := match t with
  | 3 => .inr (.inr x)
  | 4 => .inr (.inl x)
  | _ => .inl x
def zi_push (t : Nat) (x : Int) (r : List zV) : List zV := match t with
  | 0 => r
  | 3 => .inr (.inr x) :: r
  | 4 => .inr (.inl x) :: r
  | _ => .inl x :: r
def zi_up (M : Int → Int → Int) (a k v : Int) : Int → Int → Int := fun a' k' => if a' = a ∧ k' = k then v else M a' k'
def zi_wr (σ : zM) (a k v : Int) : zM := (σ.1, zi_up σ.2.1 a k v, σ.2.2)
def zi_new (σ : zM) (kd : Nat) (n : Int) (sl : Nat) : zM := (fun x => if x = σ.2.2.1 then (kd, n) else σ.1 x, fun x k => if x = σ.2.2.1 then 0 else σ.2.1 x k, σ.2.2.1 + 1, σ.2.2.2 + sl)
def zi_if (c : Jvm.ClassFile.Cond) (x y : Int) (A B : zR) : zR := match c with
  | .eq => if x = y then A else B
  | .ne => if x = y then B else A
  | .lt => if x < y then A else B
  | .ge => if x < y then B else A
  | .gt => if y < x then A else B
  | .le => if y < x then B else A
def zi_sw : List (Int × Nat) → Nat → Int → (Nat → zR) → zR
  | [], d, _, k => k d
  | c :: r, d, x, k => if x = c.1 then k c.2 else zi_sw r d x k
/-- the kinds of the fields of each class of objects: 1 int, 2 boolean, 3 a reference -/
def zi_fts : List (List Nat) := [[1, 3, 3, 3], [3, 3, 1, 1], [3, 1, 1], [3, 3, 2], [1, 1, 1, 3, 3, 3, 3, 3, 3, 3, 3], [1, 3, 3], [3, 3], [1, 1, 1, 1], [2, 1, 1, 3], [3, 3, 1, 1, 1, 1], [3, 3, 3, 3, 3, 3, 3, 3, 1, 1], [3, 3, 3, 3, 1, 1, 1, 1, 1, 1, 1, 3, 1, 1, 3, 1, 1, 3, 3, 3, 3, 3, 1, 1, 3, 3, 3, 3, 3]]
def zi_ft (c k : Nat) : Nat := (zi_fts.getD c []).getD k 0
/-- one instruction; what follows is 'nx', a call is 'G' -/
def zi_ex (t : zT) (G : Nat → List zV → zM → zR) (nx : Nat → zL → List zV → zM → zR) (pc : Nat) (ls : zL) (st : List zV) (σ : zM) : zR :=
  match zi_find t.1 pc with
  | none => none
  | some (ins, a, b, sw) => match ins with
    | .iconst _ => nx (pc + 1) ls (.inl b :: st) σ
    | .bipush _ => nx (pc + 2) ls (.inl b :: st) σ
    | .sipush _ => nx (pc + 3) ls (.inl b :: st) σ
    | .ldc_w _ => nx (pc + 3) ls (.inl b :: st) σ
    | .lconst _ => nx (pc + 1) ls (.inr (.inl b) :: st) σ
    | .ldc2_w _ => nx (pc + 3) ls (.inr (.inl b) :: st) σ
    | .aconst_null => nx (pc + 1) ls (.inr (.inr 0) :: st) σ
    | .iload_n _ => match zi_get ls a with
      | some (.inl x) => nx (pc + 1) ls (.inl x :: st) σ
      | _ => none
    | .iload _ => match zi_get ls a with
      | some (.inl x) => nx (pc + 2) ls (.inl x :: st) σ
      | _ => none
    | .lload_n _ => match zi_get ls a with
      | some (.inr (.inl x)) => nx (pc + 1) ls (.inr (.inl x) :: st) σ
      | _ => none
    | .lload _ => match zi_get ls a with
      | some (.inr (.inl x)) => nx (pc + 2) ls (.inr (.inl x) :: st) σ
      | _ => none
    | .aload_n _ => match zi_get ls a with
      | some (.inr (.inr x)) => nx (pc + 1) ls (.inr (.inr x) :: st) σ
      | _ => none
    | .aload _ => match zi_get ls a with
      | some (.inr (.inr x)) => nx (pc + 2) ls (.inr (.inr x) :: st) σ
      | _ => none
    | .istore_n _ => match st with
      | .inl x :: r => match zi_set ls a (.inl x) with
        | some ls' => nx (pc + 1) ls' r σ
        | none => none
      | _ => none
    | .istore _ => match st with
      | .inl x :: r => match zi_set ls a (.inl x) with
        | some ls' => nx (pc + 2) ls' r σ
        | none => none
      | _ => none
    | .astore_n _ => match st with
      | .inr (.inr x) :: r => match zi_set ls a (.inr (.inr x)) with
        | some ls' => nx (pc + 1) ls' r σ
        | none => none
      | _ => none
    | .astore _ => match st with
      | .inr (.inr x) :: r => match zi_set ls a (.inr (.inr x)) with
        | some ls' => nx (pc + 2) ls' r σ
        | none => none
      | _ => none
    | .lstore_n _ => match st with
      | .inr (.inl x) :: r => match zi_set ls (a + 1) (.inl 0) with
        | some l1 => match zi_set l1 a (.inr (.inl x)) with
          | some l2 => nx (pc + 1) (zi_mask ((List.range l2.length).map fun i => !(Nat.beq i (a + 1))) l2) r σ
          | none => none
        | none => none
      | _ => none
    | .lstore _ => match st with
      | .inr (.inl x) :: r => match zi_set ls (a + 1) (.inl 0) with
        | some l1 => match zi_set l1 a (.inr (.inl x)) with
          | some l2 => nx (pc + 2) (zi_mask ((List.range l2.length).map fun i => !(Nat.beq i (a + 1))) l2) r σ
          | none => none
        | none => none
      | _ => none
    | .iinc _ _ => match zi_get ls a with
      | some (.inl x) => match zi_set ls a (.inl (zi_w (x + b))) with
        | some ls' => nx (pc + 3) ls' st σ
        | none => none
      | _ => none
    | .iadd => match st with
      | .inl y :: .inl x :: r => nx (pc + 1) ls (.inl (zi_w (x + y)) :: r) σ
      | _ => none
    | .isub => match st with
      | .inl y :: .inl x :: r => nx (pc + 1) ls (.inl (zi_w (x - y)) :: r) σ
      | _ => none
    | .imul => match st with
      | .inl y :: .inl x :: r => nx (pc + 1) ls (.inl (zi_w (x * y)) :: r) σ
      | _ => none
    | .idiv => match st with
      | .inl y :: .inl x :: r => if y = 0 then none else nx (pc + 1) ls (.inl (zi_div x y) :: r) σ
      | _ => none
    | .irem => match st with
      | .inl y :: .inl x :: r => if y = 0 then none else nx (pc + 1) ls (.inl (zi_rem x y) :: r) σ
      | _ => none
    | .iand => match st with
      | .inl y :: .inl x :: r => nx (pc + 1) ls (.inl (zi_and x y) :: r) σ
      | _ => none
    | .ladd => match st with
      | .inr (.inl y) :: .inr (.inl x) :: r => nx (pc + 1) ls (.inr (.inl (zi_w64 (x + y))) :: r) σ
      | _ => none
    | .lsub => match st with
      | .inr (.inl y) :: .inr (.inl x) :: r => nx (pc + 1) ls (.inr (.inl (zi_w64 (x - y))) :: r) σ
      | _ => none
    | .lcmp => match st with
      | .inr (.inl y) :: .inr (.inl x) :: r => nx (pc + 1) ls (.inl (if y < x then 1 else if x = y then 0 else -1) :: r) σ
      | _ => none
    | .i2l => match st with
      | .inl x :: r => nx (pc + 1) ls (.inr (.inl x) :: r) σ
      | _ => none
    | .l2i => match st with
      | .inr (.inl x) :: r => nx (pc + 1) ls (.inl (zi_w x) :: r) σ
      | _ => none
    | .i2b => match st with
      | .inl x :: r => nx (pc + 1) ls (.inl (zi_i2b x) :: r) σ
      | _ => none
    | .i2c => match st with
      | .inl x :: r => nx (pc + 1) ls (.inl (zi_i2c x) :: r) σ
      | _ => none
    | .i2s => match st with
      | .inl x :: r => nx (pc + 1) ls (.inl (zi_i2s x) :: r) σ
      | _ => none
    | .dup => match st with
      | v :: r => bif zi_c1 v then nx (pc + 1) ls (v :: v :: r) σ else none
      | _ => none
    | .dup2 => match st with
      | v :: w :: r => bif zi_c1 v && zi_c1 w then nx (pc + 1) ls (v :: w :: v :: w :: r) σ else none
      | _ => none
    | .pop => match st with
      | v :: r => bif zi_c1 v then nx (pc + 1) ls r σ else none
      | _ => none
    | .ifCond c _ => match st with
      | .inl x :: r => zi_if c x 0 (nx a ls r σ) (nx (pc + 3) ls r σ)
      | _ => none
    | .if_icmp c _ => match st with
      | .inl y :: .inl x :: r => zi_if c x y (nx a ls r σ) (nx (pc + 3) ls r σ)
      | _ => none
    | .ifnull _ => match st with
      | .inr (.inr x) :: r => if x = 0 then nx a ls r σ else nx (pc + 3) ls r σ
      | _ => none
    | .ifnonnull _ => match st with
      | .inr (.inr x) :: r => if x = 0 then nx (pc + 3) ls r σ else nx a ls r σ
      | _ => none
    | .goto _ => nx a ls st σ
    | .tableswitch _ _ _ _ => match st with
      | .inl x :: r => zi_sw sw a x fun pc' => nx pc' ls r σ
      | _ => none
    | .lookupswitch _ _ => match st with
      | .inl x :: r => zi_sw sw a x fun pc' => nx pc' ls r σ
      | _ => none
    | .getfield _ => match st with
      | .inr (.inr p) :: r => if (σ.1 p).1 = a then nx (pc + 3) ls (zi_mkv (zi_ft a b.toNat) (σ.2.1 p b) :: r) σ else none
      | _ => none
    | .putfield _ => match zi_ft a b.toNat with
      | 1 => match st with
        | .inl v :: .inr (.inr p) :: r => if (σ.1 p).1 = a then nx (pc + 3) ls r (zi_wr σ p b v) else none
        | _ => none
      | 2 => match st with
        | .inl v :: .inr (.inr p) :: r => if (σ.1 p).1 = a ∧ (v = 0 ∨ v = 1) then nx (pc + 3) ls r (zi_wr σ p b v) else none
        | _ => none
      | 3 => match st with
        | .inr (.inr v) :: .inr (.inr p) :: r => if (σ.1 p).1 = a then nx (pc + 3) ls r (zi_wr σ p b v) else none
        | _ => none
      | _ => none
    | .iaload => match st with
      | .inl j :: .inr (.inr p) :: r => if (σ.1 p).1 = a ∧ 0 ≤ j ∧ j < (σ.1 p).2 then nx (pc + 1) ls (.inl (σ.2.1 p j) :: r) σ else none
      | _ => none
    | .iastore => match st with
      | .inl v :: .inl j :: .inr (.inr p) :: r => if (σ.1 p).1 = 12 ∧ 0 ≤ j ∧ j < (σ.1 p).2 then nx (pc + 1) ls r (zi_wr σ p j v) else none
      | _ => none
    | .baload => match st with
      | .inl j :: .inr (.inr p) :: r => if (σ.1 p).1 = 13 ∧ 0 ≤ j ∧ j < (σ.1 p).2 then nx (pc + 1) ls (.inl (σ.2.1 p j) :: r) σ else none
      | _ => none
    | .bastore => match st with
      | .inl v :: .inl j :: .inr (.inr p) :: r => if ((σ.1 p).1 = 13 ∧ 0 ≤ j ∧ j < (σ.1 p).2) ∧ (v = 0 ∨ v = 1) then nx (pc + 1) ls r (zi_wr σ p j v) else none
      | _ => none
    | .aaload => match st with
      | .inl j :: .inr (.inr p) :: r => if (σ.1 p).1 = a ∧ 0 ≤ j ∧ j < (σ.1 p).2 then nx (pc + 1) ls (.inr (.inr (σ.2.1 p j)) :: r) σ else none
      | _ => none
    | .aastore => match st with
      | .inr (.inr v) :: .inl j :: .inr (.inr p) :: r => if ((σ.1 p).1 = a ∧ 0 ≤ j ∧ j < (σ.1 p).2) ∧ ((σ.1 v).1 : Int) = b then nx (pc + 1) ls r (zi_wr σ p j v) else none
      | _ => none
    | .arraylength => match st with
      | .inr (.inr p) :: r => if (σ.1 p).1 = a then nx (pc + 1) ls (.inl (σ.1 p).2 :: r) σ else none
      | _ => none
    | .newarray _ => match st with
      | .inl n :: r => if 0 ≤ n ∧ n ≤ 100000 then nx (pc + 2) ls (.inr (.inr σ.2.2.1) :: r) (zi_new σ a n n.toNat) else none
      | _ => none
    | .anewarray _ => match st with
      | .inl n :: r => if 0 ≤ n ∧ n ≤ 100000 then nx (pc + 3) ls (.inr (.inr σ.2.2.1) :: r) (zi_new σ a n n.toNat) else none
      | _ => none
    | .new _ => nx (pc + 3) ls (.inr (.inr σ.2.2.1) :: st) (zi_new σ a 0 b.toNat)
    | .invokestatic _ => match sw with
      | (n, rk) :: _ => match zi_take n.toNat [] st with
        | some (args, r) => bif Nat.ble (zi_cats r) 8 then (G a args σ).bind fun q => nx (pc + 3) ls (zi_push rk q.1 r) q.2 else none
        | none => none
      | _ => none
    | .invokevirtual _ => match sw with
      | (n, rk) :: _ => match zi_take n.toNat [] st with
        | some (.inr (.inr p) :: args, r) => bif Nat.ble (zi_cats r) 8 then (if ((σ.1 p).1 : Int) = b then (G a (.inr (.inr p) :: args) σ).bind fun q => nx (pc + 3) ls (zi_push rk q.1 r) q.2 else none) else none
        | _ => none
      | _ => none
    | .invokespecial _ => match sw with
      | (n, rk) :: _ => match zi_take n.toNat [] st with
        | some (.inr (.inr p) :: args, r) => bif Nat.ble (zi_cats r) 8 then (if ((σ.1 p).1 : Int) = b then (G a (.inr (.inr p) :: args) σ).bind fun q => nx (pc + 3) ls (zi_push rk q.1 r) q.2 else none) else none
        | _ => none
      | _ => none
    | .ireturn => match st with
      | [.inl x] => match t.2.2.2 with
        | 1 => some (x, σ)
        | 2 => if x = 0 ∨ x = 1 then some (x, σ) else none
        | _ => none
      | _ => none
    | .areturn => match st with
      | [.inr (.inr x)] => match t.2.2.2 with
        | 3 => some (x, σ)
        | _ => none
      | _ => none
    | .return_ => match st with
      | [] => match t.2.2.2 with
        | 0 => some (0, σ)
        | _ => none
      | _ => none
    | _ => none
/-- a stretch of code up to a cut -/
def zi_fr (t : zT) (G : Nat → List zV → zM → zR) (K : Nat → zL → List zV → zM → zR) : Nat → Nat → zL → List zV → zM → zR
  | 0 => fun _ _ _ _ => none
  | n + 1 => fun pc ls st σ => zi_ex t G (fun pc' ls' st' σ' => match zi_cut t.2.1 pc' with
    | some live => K pc' (zi_mask live ls') st' σ'
    | none => zi_fr t G K n pc' ls' st' σ') pc ls st σ
def zi_run (t : zT) (G : Nat → List zV → zM → zR) : Nat → Nat → zL → List zV → zM → zR
  | 0 => fun _ _ _ _ => none
  | n + 1 => fun pc ls st σ => zi_fr t G (zi_run t G n) 600 pc ls st σ
/-- the locals at the entry -/
def zi_args : List zV → zL
  | [] => []
  | .inr (.inl x) :: r => some (.inr (.inl x)) :: none :: zi_args r
  | v :: r => some v :: zi_args r
def zi_loc (vs : List zV) (n : Nat) : zL := zi_args vs ++ List.replicate (n - (zi_args vs).length) none
def zi_cpy (M : Int → Int → Int) (p q s d n : Int) : Int → Int → Int := fun a k => if a = q ∧ d ≤ k ∧ k < d + n then M p (s + (k - d)) else M a k
/-- what is not bytecode of the class: Object(), Math, arraycopy -/
def zi_nat (j : Nat) (vs : List zV) (σ : zM) : zR := match j, vs with
  | 1000, [.inr (.inr _)] => some (0, σ)
  | 1001, [.inl x, .inl y] => some (if x < y then y else x, σ)
  | 1002, [.inl x, .inl y] => some (if y < x then y else x, σ)
  | 1003, [.inr (.inl x), .inr (.inl y)] => some (if y < x then x else y, σ)
  | 1004, [.inr (.inl x), .inr (.inl y)] => some (if y < x then y else x, σ)
  | 1005, [.inr (.inr p), .inl s, .inr (.inr q), .inl d, .inl n] => if ((σ.1 p).1 = 12 ∧ (σ.1 q).1 = 12) ∧ 0 ≤ s ∧ 0 ≤ d ∧ 0 ≤ n ∧ s + n ≤ (σ.1 p).2 ∧ d + n ≤ (σ.1 q).2 then some (0, (σ.1, zi_cpy σ.2.1 p q s d n, σ.2.2)) else none
  | _, _ => none
def zi_G (tab : Nat → zT) : Nat → Nat → List zV → zM → zR
  | 0 => fun _ _ _ => none
  | d + 1 => fun j vs σ => bif Nat.ble 1000 j then zi_nat j vs σ else zi_run (tab j) (zi_G tab d) 20000 0 (zi_loc vs (tab j).2.2.1) [] σ
end
section
def zt_1 : zT := ([(0, .iload_n 1, 1, 0, []), (1, .ifCond .lt 15, 16, 0, []), (4, .iload_n 1, 1, 0, []), (5, .aload_n 0, 0, 0, []), (6, .getfield 9, 0, 0, []), (9, .if_icmp .ge 7, 16, 0, []), (12, .iconst 1, 0, 1, []), (13, .goto 4, 17, 0, []), (16, .iconst 0, 0, 0, []), (17, .ireturn, 0, 0, [])], [], 2, 2)
def zt_2 : zT := ([(0, .aload_n 0, 0, 0, []), (1, .getfield 15, 0, 1, []), (4, .iload_n 1, 1, 0, []), (5, .invokestatic 25, 73, (-1), [(2, 1)]), (8, .ireturn, 0, 0, [])], [], 2, 1)
def zt_3 : zT := ([(0, .aload_n 0, 0, 0, []), (1, .getfield 19, 0, 2, []), (4, .iload_n 1, 1, 0, []), (5, .invokestatic 25, 73, (-1), [(2, 1)]), (8, .ireturn, 0, 0, [])], [], 2, 1)
def zt_4 : zT := ([(0, .aload_n 0, 0, 0, []), (1, .getfield 22, 0, 3, []), (4, .iload_n 1, 1, 0, []), (5, .invokestatic 25, 73, (-1), [(2, 1)]), (8, .iconst 1, 0, 1, []), (9, .if_icmp .ne 7, 16, 0, []), (12, .iconst 1, 0, 1, []), (13, .goto 4, 17, 0, []), (16, .iconst 0, 0, 0, []), (17, .ireturn, 0, 0, [])], [], 2, 2)
def zt_5 : zT := ([(0, .aload_n 0, 0, 0, []), (1, .getfield 22, 0, 3, []), (4, .iload_n 1, 1, 0, []), (5, .iload_n 2, 2, 0, []), (6, .invokestatic 31, 74, (-1), [(3, 0)]), (9, .return_, 0, 0, [])], [], 3, 0)
def zt_6 : zT := ([(0, .aload_n 0, 0, 0, []), (1, .getfield 22, 0, 3, []), (4, .aload_n 0, 0, 0, []), (5, .getfield 9, 0, 0, []), (8, .invokestatic 35, 76, (-1), [(2, 1)]), (11, .ireturn, 0, 0, [])], [], 1, 1)
def zt_7 : zT := ([(0, .iconst 0, 0, 0, []), (1, .istore_n 2, 2, 0, []), (2, .iconst 0, 0, 0, []), (3, .istore_n 3, 3, 0, []), (4, .iload_n 3, 3, 0, []), (5, .aload_n 0, 0, 0, []), (6, .getfield 9, 0, 0, []), (9, .if_icmp .ge 43, 52, 0, []), (12, .iload_n 3, 3, 0, []), (13, .iload_n 1, 1, 0, []), (14, .if_icmp .eq 32, 46, 0, []), (17, .aload_n 0, 0, 0, []), (18, .iload_n 3, 3, 0, []), (19, .invokevirtual 38, 2, 0, [(2, 1)]), (22, .aload_n 0, 0, 0, []), (23, .iload_n 1, 1, 0, []), (24, .invokevirtual 38, 2, 0, [(2, 1)]), (27, .if_icmp .gt 19, 46, 0, []), (30, .aload_n 0, 0, 0, []), (31, .iload_n 1, 1, 0, []), (32, .invokevirtual 42, 3, 0, [(2, 1)]), (35, .aload_n 0, 0, 0, []), (36, .iload_n 3, 3, 0, []), (37, .invokevirtual 42, 3, 0, [(2, 1)]), (40, .if_icmp .gt 6, 46, 0, []), (43, .iinc 2 1, 2, 1, []), (46, .iinc 3 1, 3, 1, []), (49, .goto (-45), 4, 0, []), (52, .iload_n 2, 2, 0, []), (53, .ireturn, 0, 0, [])], [(4, [true, true, true, true])], 4, 1)
def zt_8 : zT := ([(0, .iconst 0, 0, 0, []), (1, .istore_n 2, 2, 0, []), (2, .iload_n 2, 2, 0, []), (3, .aload_n 0, 0, 0, []), (4, .getfield 9, 0, 0, []), (7, .if_icmp .ge 37, 44, 0, []), (10, .aload_n 0, 0, 0, []), (11, .iload_n 2, 2, 0, []), (12, .invokevirtual 45, 4, 0, [(2, 2)]), (15, .ifCond .eq 23, 38, 0, []), (18, .aload_n 0, 0, 0, []), (19, .iload_n 2, 2, 0, []), (20, .invokevirtual 38, 2, 0, [(2, 1)]), (23, .iload_n 1, 1, 0, []), (24, .if_icmp .ge 14, 38, 0, []), (27, .iload_n 1, 1, 0, []), (28, .aload_n 0, 0, 0, []), (29, .iload_n 2, 2, 0, []), (30, .invokevirtual 42, 3, 0, [(2, 1)]), (33, .if_icmp .gt 5, 38, 0, []), (36, .iconst 1, 0, 1, []), (37, .ireturn, 0, 0, []), (38, .iinc 2 1, 2, 1, []), (41, .goto (-39), 2, 0, []), (44, .iconst 0, 0, 0, []), (45, .ireturn, 0, 0, [])], [(2, [true, true, true])], 3, 2)
def zt_9 : zT := ([(0, .iconst 0, 0, 0, []), (1, .istore_n 2, 2, 0, []), (2, .iload_n 2, 2, 0, []), (3, .aload_n 0, 0, 0, []), (4, .getfield 9, 0, 0, []), (7, .if_icmp .ge 28, 35, 0, []), (10, .aload_n 0, 0, 0, []), (11, .iload_n 2, 2, 0, []), (12, .invokevirtual 45, 4, 0, [(2, 2)]), (15, .ifCond .eq 14, 29, 0, []), (18, .aload_n 0, 0, 0, []), (19, .iload_n 2, 2, 0, []), (20, .invokevirtual 38, 2, 0, [(2, 1)]), (23, .iload_n 1, 1, 0, []), (24, .if_icmp .ne 5, 29, 0, []), (27, .iconst 1, 0, 1, []), (28, .ireturn, 0, 0, []), (29, .iinc 2 1, 2, 1, []), (32, .goto (-30), 2, 0, []), (35, .iconst 0, 0, 0, []), (36, .ireturn, 0, 0, [])], [(2, [true, true, true])], 3, 2)
def zt_10 : zT := ([(0, .iconst 0, 0, 0, []), (1, .istore_n 3, 3, 0, []), (2, .iload_n 3, 3, 0, []), (3, .aload_n 0, 0, 0, []), (4, .getfield 9, 0, 0, []), (7, .if_icmp .ge 29, 36, 0, []), (10, .aload_n 0, 0, 0, []), (11, .iload_n 3, 3, 0, []), (12, .invokevirtual 38, 2, 0, [(2, 1)]), (15, .aload_n 0, 0, 0, []), (16, .iload_n 3, 3, 0, []), (17, .invokevirtual 42, 3, 0, [(2, 1)]), (20, .iload_n 1, 1, 0, []), (21, .iload_n 2, 2, 0, []), (22, .invokestatic 49, 17, (-1), [(4, 2)]), (25, .ifCond .eq 5, 30, 0, []), (28, .iconst 1, 0, 1, []), (29, .ireturn, 0, 0, []), (30, .iinc 3 1, 3, 1, []), (33, .goto (-31), 2, 0, []), (36, .iconst 0, 0, 0, []), (37, .ireturn, 0, 0, [])], [(2, [true, true, true, true])], 4, 2)
def zt_11 : zT := ([(0, .aload_n 0, 0, 0, []), (1, .getfield 9, 0, 0, []), (4, .istore_n 3, 3, 0, []), (5, .iload_n 3, 3, 0, []), (6, .ifCond .le 60, 66, 0, []), (9, .iload_n 1, 1, 0, []), (10, .iload_n 2, 2, 0, []), (11, .aload_n 0, 0, 0, []), (12, .iload_n 3, 3, 0, []), (13, .iconst 1, 0, 1, []), (14, .isub, 0, 0, []), (15, .invokevirtual 38, 2, 0, [(2, 1)]), (18, .aload_n 0, 0, 0, []), (19, .iload_n 3, 3, 0, []), (20, .iconst 1, 0, 1, []), (21, .isub, 0, 0, []), (22, .invokevirtual 42, 3, 0, [(2, 1)]), (25, .invokestatic 53, 18, (-1), [(4, 2)]), (28, .ifCond .eq 38, 66, 0, []), (31, .aload_n 0, 0, 0, []), (32, .iload_n 3, 3, 0, []), (33, .aload_n 0, 0, 0, []), (34, .iload_n 3, 3, 0, []), (35, .iconst 1, 0, 1, []), (36, .isub, 0, 0, []), (37, .invokevirtual 38, 2, 0, [(2, 1)]), (40, .aload_n 0, 0, 0, []), (41, .iload_n 3, 3, 0, []), (42, .iconst 1, 0, 1, []), (43, .isub, 0, 0, []), (44, .invokevirtual 42, 3, 0, [(2, 1)]), (47, .aload_n 0, 0, 0, []), (48, .getfield 22, 0, 3, []), (51, .iload_n 3, 3, 0, []), (52, .iconst 1, 0, 1, []), (53, .isub, 0, 0, []), (54, .invokestatic 25, 73, (-1), [(2, 1)]), (57, .invokevirtual 56, 19, 0, [(5, 0)]), (60, .iinc 3 (-1), 3, (-1), []), (63, .goto (-58), 5, 0, []), (66, .aload_n 0, 0, 0, []), (67, .iload_n 3, 3, 0, []), (68, .iload_n 1, 1, 0, []), (69, .iload_n 2, 2, 0, []), (70, .iconst 0, 0, 0, []), (71, .invokevirtual 56, 19, 0, [(5, 0)]), (74, .aload_n 0, 0, 0, []), (75, .dup, 0, 0, []), (76, .getfield 9, 0, 0, []), (79, .iconst 1, 0, 1, []), (80, .iadd, 0, 0, []), (81, .putfield 9, 0, 0, []), (84, .iload_n 3, 3, 0, []), (85, .ireturn, 0, 0, [])], [(5, [true, true, true, true])], 4, 1)
def zt_12 : zT := ([(0, .iload_n 1, 1, 0, []), (1, .iconst 1, 0, 1, []), (2, .iadd, 0, 0, []), (3, .istore_n 2, 2, 0, []), (4, .iload_n 2, 2, 0, []), (5, .aload_n 0, 0, 0, []), (6, .getfield 9, 0, 0, []), (9, .if_icmp .ge 34, 43, 0, []), (12, .aload_n 0, 0, 0, []), (13, .iload_n 2, 2, 0, []), (14, .iconst 1, 0, 1, []), (15, .isub, 0, 0, []), (16, .aload_n 0, 0, 0, []), (17, .iload_n 2, 2, 0, []), (18, .invokevirtual 38, 2, 0, [(2, 1)]), (21, .aload_n 0, 0, 0, []), (22, .iload_n 2, 2, 0, []), (23, .invokevirtual 42, 3, 0, [(2, 1)]), (26, .aload_n 0, 0, 0, []), (27, .getfield 22, 0, 3, []), (30, .iload_n 2, 2, 0, []), (31, .invokestatic 25, 73, (-1), [(2, 1)]), (34, .invokevirtual 56, 19, 0, [(5, 0)]), (37, .iinc 2 1, 2, 1, []), (40, .goto (-36), 4, 0, []), (43, .aload_n 0, 0, 0, []), (44, .dup, 0, 0, []), (45, .getfield 9, 0, 0, []), (48, .iconst 1, 0, 1, []), (49, .isub, 0, 0, []), (50, .putfield 9, 0, 0, []), (53, .return_, 0, 0, [])], [(4, [true, false, true])], 3, 0)
def zt_13 : zT := ([(0, .aload_n 0, 0, 0, []), (1, .iconst 0, 0, 0, []), (2, .putfield 9, 0, 0, []), (5, .return_, 0, 0, [])], [], 1, 0)
def zt_14 : zT := ([(0, .iconst 0, 0, 0, []), (1, .istore_n 2, 2, 0, []), (2, .iload_n 2, 2, 0, []), (3, .aload_n 0, 0, 0, []), (4, .getfield 9, 0, 0, []), (7, .if_icmp .ge 73, 80, 0, []), (10, .aload_n 0, 0, 0, []), (11, .getfield 15, 0, 1, []), (14, .iload_n 2, 2, 0, []), (15, .aload_n 0, 0, 0, []), (16, .iload_n 2, 2, 0, []), (17, .invokevirtual 38, 2, 0, [(2, 1)]), (20, .iload_n 1, 1, 0, []), (21, .if_icmp .le 13, 34, 0, []), (24, .aload_n 0, 0, 0, []), (25, .iload_n 2, 2, 0, []), (26, .invokevirtual 38, 2, 0, [(2, 1)]), (29, .iconst 1, 0, 1, []), (30, .iadd, 0, 0, []), (31, .goto 8, 39, 0, []), (34, .aload_n 0, 0, 0, []), (35, .iload_n 2, 2, 0, []), (36, .invokevirtual 38, 2, 0, [(2, 1)]), (39, .invokestatic 31, 74, (-1), [(3, 0)]), (42, .aload_n 0, 0, 0, []), (43, .getfield 19, 0, 2, []), (46, .iload_n 2, 2, 0, []), (47, .aload_n 0, 0, 0, []), (48, .iload_n 2, 2, 0, []), (49, .invokevirtual 42, 3, 0, [(2, 1)]), (52, .iload_n 1, 1, 0, []), (53, .if_icmp .lt 13, 66, 0, []), (56, .aload_n 0, 0, 0, []), (57, .iload_n 2, 2, 0, []), (58, .invokevirtual 42, 3, 0, [(2, 1)]), (61, .iconst 1, 0, 1, []), (62, .iadd, 0, 0, []), (63, .goto 8, 71, 0, []), (66, .aload_n 0, 0, 0, []), (67, .iload_n 2, 2, 0, []), (68, .invokevirtual 42, 3, 0, [(2, 1)]), (71, .invokestatic 31, 74, (-1), [(3, 0)]), (74, .iinc 2 1, 2, 1, []), (77, .goto (-75), 2, 0, []), (80, .return_, 0, 0, [])], [(2, [true, true, true])], 3, 0)
def zt_15 : zT := ([(0, .aload_n 0, 0, 0, []), (1, .getfield 9, 0, 0, []), (4, .istore_n 2, 2, 0, []), (5, .aload_n 0, 0, 0, []), (6, .iconst 0, 0, 0, []), (7, .putfield 9, 0, 0, []), (10, .iconst 0, 0, 0, []), (11, .istore_n 3, 3, 0, []), (12, .iload_n 3, 3, 0, []), (13, .iload_n 2, 2, 0, []), (14, .if_icmp .ge 109, 123, 0, []), (17, .aload_n 0, 0, 0, []), (18, .iload_n 3, 3, 0, []), (19, .invokevirtual 38, 2, 0, [(2, 1)]), (22, .iload_n 1, 1, 0, []), (23, .if_icmp .le 13, 36, 0, []), (26, .aload_n 0, 0, 0, []), (27, .iload_n 3, 3, 0, []), (28, .invokevirtual 38, 2, 0, [(2, 1)]), (31, .iconst 1, 0, 1, []), (32, .isub, 0, 0, []), (33, .goto 8, 41, 0, []), (36, .aload_n 0, 0, 0, []), (37, .iload_n 3, 3, 0, []), (38, .invokevirtual 38, 2, 0, [(2, 1)]), (41, .istore 4, 4, 0, []), (43, .aload_n 0, 0, 0, []), (44, .iload_n 3, 3, 0, []), (45, .invokevirtual 42, 3, 0, [(2, 1)]), (48, .iload_n 1, 1, 0, []), (49, .if_icmp .le 13, 62, 0, []), (52, .aload_n 0, 0, 0, []), (53, .iload_n 3, 3, 0, []), (54, .invokevirtual 42, 3, 0, [(2, 1)]), (57, .iconst 1, 0, 1, []), (58, .isub, 0, 0, []), (59, .goto 8, 67, 0, []), (62, .aload_n 0, 0, 0, []), (63, .iload_n 3, 3, 0, []), (64, .invokevirtual 42, 3, 0, [(2, 1)]), (67, .istore 5, 5, 0, []), (69, .iload 4, 4, 0, []), (71, .iload 5, 5, 0, []), (73, .if_icmp .ge 44, 117, 0, []), (76, .aload_n 0, 0, 0, []), (77, .iload 4, 4, 0, []), (79, .iload 5, 5, 0, []), (81, .invokevirtual 60, 10, 0, [(3, 2)]), (84, .ifCond .ne 33, 117, 0, []), (87, .aload_n 0, 0, 0, []), (88, .aload_n 0, 0, 0, []), (89, .getfield 9, 0, 0, []), (92, .iload 4, 4, 0, []), (94, .iload 5, 5, 0, []), (96, .aload_n 0, 0, 0, []), (97, .getfield 22, 0, 3, []), (100, .iload_n 3, 3, 0, []), (101, .invokestatic 25, 73, (-1), [(2, 1)]), (104, .invokevirtual 56, 19, 0, [(5, 0)]), (107, .aload_n 0, 0, 0, []), (108, .dup, 0, 0, []), (109, .getfield 9, 0, 0, []), (112, .iconst 1, 0, 1, []), (113, .iadd, 0, 0, []), (114, .putfield 9, 0, 0, []), (117, .iinc 3 1, 3, 1, []), (120, .goto (-108), 12, 0, []), (123, .return_, 0, 0, [])], [(12, [true, true, true, true, false, false]), (67, [true, true, true, true, true, false])], 6, 0)
def zt_16 : zT := ([(0, .aload_n 0, 0, 0, []), (1, .aload_n 1, 1, 0, []), (2, .getfield 9, 0, 0, []), (5, .putfield 9, 0, 0, []), (8, .aload_n 1, 1, 0, []), (9, .getfield 15, 0, 1, []), (12, .aload_n 0, 0, 0, []), (13, .getfield 15, 0, 1, []), (16, .invokestatic 64, 75, (-1), [(2, 0)]), (19, .aload_n 1, 1, 0, []), (20, .getfield 19, 0, 2, []), (23, .aload_n 0, 0, 0, []), (24, .getfield 19, 0, 2, []), (27, .invokestatic 64, 75, (-1), [(2, 0)]), (30, .aload_n 1, 1, 0, []), (31, .getfield 22, 0, 3, []), (34, .aload_n 0, 0, 0, []), (35, .getfield 22, 0, 3, []), (38, .invokestatic 64, 75, (-1), [(2, 0)]), (41, .return_, 0, 0, [])], [], 2, 0)
def zt_17 : zT := ([(0, .iload_n 0, 0, 0, []), (1, .iload_n 2, 2, 0, []), (2, .if_icmp .ne 10, 12, 0, []), (5, .iload_n 1, 1, 0, []), (6, .iload_n 3, 3, 0, []), (7, .if_icmp .ne 5, 12, 0, []), (10, .iconst 1, 0, 1, []), (11, .ireturn, 0, 0, []), (12, .iload_n 1, 1, 0, []), (13, .iload_n 2, 2, 0, []), (14, .if_icmp .lt 8, 22, 0, []), (17, .iload_n 3, 3, 0, []), (18, .iload_n 0, 0, 0, []), (19, .if_icmp .ge 7, 26, 0, []), (22, .iconst 1, 0, 1, []), (23, .goto 4, 27, 0, []), (26, .iconst 0, 0, 0, []), (27, .istore 4, 4, 0, []), (29, .iload_n 0, 0, 0, []), (30, .iload_n 2, 2, 0, []), (31, .if_icmp .gt 8, 39, 0, []), (34, .iload_n 3, 3, 0, []), (35, .iload_n 1, 1, 0, []), (36, .if_icmp .le 13, 49, 0, []), (39, .iload_n 2, 2, 0, []), (40, .iload_n 0, 0, 0, []), (41, .if_icmp .gt 12, 53, 0, []), (44, .iload_n 1, 1, 0, []), (45, .iload_n 3, 3, 0, []), (46, .if_icmp .gt 7, 53, 0, []), (49, .iconst 1, 0, 1, []), (50, .goto 4, 54, 0, []), (53, .iconst 0, 0, 0, []), (54, .istore 5, 5, 0, []), (56, .iload 4, 4, 0, []), (58, .ifCond .ne 12, 70, 0, []), (61, .iload 5, 5, 0, []), (63, .ifCond .ne 7, 70, 0, []), (66, .iconst 1, 0, 1, []), (67, .goto 4, 71, 0, []), (70, .iconst 0, 0, 0, []), (71, .ireturn, 0, 0, [])], [(12, [true, true, true, true, false, false]), (27, [true, true, true, true, false, false]), (54, [false, false, false, false, true, false])], 6, 2)
def zt_18 : zT := ([(0, .iload_n 0, 0, 0, []), (1, .iload_n 2, 2, 0, []), (2, .if_icmp .lt 13, 15, 0, []), (5, .iload_n 0, 0, 0, []), (6, .iload_n 2, 2, 0, []), (7, .if_icmp .ne 12, 19, 0, []), (10, .iload_n 1, 1, 0, []), (11, .iload_n 3, 3, 0, []), (12, .if_icmp .le 7, 19, 0, []), (15, .iconst 1, 0, 1, []), (16, .goto 4, 20, 0, []), (19, .iconst 0, 0, 0, []), (20, .ireturn, 0, 0, [])], [], 4, 2)
def zt_19 : zT := ([(0, .aload_n 0, 0, 0, []), (1, .getfield 15, 0, 1, []), (4, .iload_n 1, 1, 0, []), (5, .iload_n 2, 2, 0, []), (6, .invokestatic 31, 74, (-1), [(3, 0)]), (9, .aload_n 0, 0, 0, []), (10, .getfield 19, 0, 2, []), (13, .iload_n 1, 1, 0, []), (14, .iload_n 3, 3, 0, []), (15, .invokestatic 31, 74, (-1), [(3, 0)]), (18, .aload_n 0, 0, 0, []), (19, .getfield 22, 0, 3, []), (22, .iload_n 1, 1, 0, []), (23, .iload 4, 4, 0, []), (25, .invokestatic 31, 74, (-1), [(3, 0)]), (28, .return_, 0, 0, [])], [], 5, 0)
theorem ze_1_0 {G : Nat → List zV → zM → zR} {K : Nat → zL → List zV → zM → zR} {x0 x1 : Int} {σ : zM} : zi_fr zt_1 G K 600 0 [some (.inr (.inr x0)), some (.inl x1)] [] σ = (if x1 < 0 then (if 0 = 0 ∨ 0 = 1 then some (0, σ) else none) else (if (σ.1 x0).1 = 0 then if x1 < (σ.2.1 x0 0) then (if 1 = 0 ∨ 1 = 1 then some (1, σ) else none) else (if 0 = 0 ∨ 0 = 1 then some (0, σ) else none) else none)) := rfl
theorem ze_2_0 {G : Nat → List zV → zM → zR} {K : Nat → zL → List zV → zM → zR} {x0 x1 : Int} {σ : zM} : zi_fr zt_2 G K 600 0 [some (.inr (.inr x0)), some (.inl x1)] [] σ = (if (σ.1 x0).1 = 0 then (G 73 [.inr (.inr (σ.2.1 x0 1)), .inl x1] σ).bind fun q1 => some (q1.1, q1.2) else none) := rfl
theorem ze_3_0 {G : Nat → List zV → zM → zR} {K : Nat → zL → List zV → zM → zR} {x0 x1 : Int} {σ : zM} : zi_fr zt_3 G K 600 0 [some (.inr (.inr x0)), some (.inl x1)] [] σ = (if (σ.1 x0).1 = 0 then (G 73 [.inr (.inr (σ.2.1 x0 2)), .inl x1] σ).bind fun q1 => some (q1.1, q1.2) else none) := rfl
theorem ze_4_0 {G : Nat → List zV → zM → zR} {K : Nat → zL → List zV → zM → zR} {x0 x1 : Int} {σ : zM} : zi_fr zt_4 G K 600 0 [some (.inr (.inr x0)), some (.inl x1)] [] σ = (if (σ.1 x0).1 = 0 then (G 73 [.inr (.inr (σ.2.1 x0 3)), .inl x1] σ).bind fun q1 => if q1.1 = 1 then (if 1 = 0 ∨ 1 = 1 then some (1, q1.2) else none) else (if 0 = 0 ∨ 0 = 1 then some (0, q1.2) else none) else none) := rfl
theorem ze_5_0 {G : Nat → List zV → zM → zR} {K : Nat → zL → List zV → zM → zR} {x0 x1 x2 : Int} {σ : zM} : zi_fr zt_5 G K 600 0 [some (.inr (.inr x0)), some (.inl x1), some (.inl x2)] [] σ = (if (σ.1 x0).1 = 0 then (G 74 [.inr (.inr (σ.2.1 x0 3)), .inl x1, .inl x2] σ).bind fun q1 => some (0, q1.2) else none) := rfl
theorem ze_6_0 {G : Nat → List zV → zM → zR} {K : Nat → zL → List zV → zM → zR} {x0 : Int} {σ : zM} : zi_fr zt_6 G K 600 0 [some (.inr (.inr x0))] [] σ = (if (σ.1 x0).1 = 0 then if (σ.1 x0).1 = 0 then (G 76 [.inr (.inr (σ.2.1 x0 3)), .inl (σ.2.1 x0 0)] σ).bind fun q1 => some (q1.1, q1.2) else none else none) := rfl
theorem ze_7_0 {G : Nat → List zV → zM → zR} {K : Nat → zL → List zV → zM → zR} {x0 x1 : Int} {σ : zM} : zi_fr zt_7 G K 600 0 [some (.inr (.inr x0)), some (.inl x1), none, none] [] σ = (K 4 [some (.inr (.inr x0)), some (.inl x1), some (.inl 0), some (.inl 0)] [] σ) := rfl
theorem ze_7_4 {G : Nat → List zV → zM → zR} {K : Nat → zL → List zV → zM → zR} {x0 x1 x2 x3 : Int} {σ : zM} : zi_fr zt_7 G K 600 4 [some (.inr (.inr x0)), some (.inl x1), some (.inl x2), some (.inl x3)] [] σ = (if (σ.1 x0).1 = 0 then if x3 < (σ.2.1 x0 0) then (if x3 = x1 then (K 4 [some (.inr (.inr x0)), some (.inl x1), some (.inl x2), some (.inl (zi_w (x3 + 1)))] [] σ) else (if ((σ.1 x0).1 : Int) = 0 then (G 2 [.inr (.inr x0), .inl x3] σ).bind fun q1 => if ((q1.2.1 x0).1 : Int) = 0 then (G 2 [.inr (.inr x0), .inl x1] q1.2).bind fun q2 => if q2.1 < q1.1 then (K 4 [some (.inr (.inr x0)), some (.inl x1), some (.inl x2), some (.inl (zi_w (x3 + 1)))] [] q2.2) else (if ((q2.2.1 x0).1 : Int) = 0 then (G 3 [.inr (.inr x0), .inl x1] q2.2).bind fun q3 => if ((q3.2.1 x0).1 : Int) = 0 then (G 3 [.inr (.inr x0), .inl x3] q3.2).bind fun q4 => if q4.1 < q3.1 then (K 4 [some (.inr (.inr x0)), some (.inl x1), some (.inl x2), some (.inl (zi_w (x3 + 1)))] [] q4.2) else (K 4 [some (.inr (.inr x0)), some (.inl x1), some (.inl (zi_w (x2 + 1))), some (.inl (zi_w (x3 + 1)))] [] q4.2) else none else none) else none else none)) else (some (x2, σ)) else none) := rfl
theorem ze_8_0 {G : Nat → List zV → zM → zR} {K : Nat → zL → List zV → zM → zR} {x0 x1 : Int} {σ : zM} : zi_fr zt_8 G K 600 0 [some (.inr (.inr x0)), some (.inl x1), none] [] σ = (K 2 [some (.inr (.inr x0)), some (.inl x1), some (.inl 0)] [] σ) := rfl
theorem ze_8_2 {G : Nat → List zV → zM → zR} {K : Nat → zL → List zV → zM → zR} {x0 x1 x2 : Int} {σ : zM} : zi_fr zt_8 G K 600 2 [some (.inr (.inr x0)), some (.inl x1), some (.inl x2)] [] σ = (if (σ.1 x0).1 = 0 then if x2 < (σ.2.1 x0 0) then (if ((σ.1 x0).1 : Int) = 0 then (G 4 [.inr (.inr x0), .inl x2] σ).bind fun q1 => if q1.1 = 0 then (K 2 [some (.inr (.inr x0)), some (.inl x1), some (.inl (zi_w (x2 + 1)))] [] q1.2) else (if ((q1.2.1 x0).1 : Int) = 0 then (G 2 [.inr (.inr x0), .inl x2] q1.2).bind fun q2 => if q2.1 < x1 then (if ((q2.2.1 x0).1 : Int) = 0 then (G 3 [.inr (.inr x0), .inl x2] q2.2).bind fun q3 => if q3.1 < x1 then (K 2 [some (.inr (.inr x0)), some (.inl x1), some (.inl (zi_w (x2 + 1)))] [] q3.2) else (if 1 = 0 ∨ 1 = 1 then some (1, q3.2) else none) else none) else (K 2 [some (.inr (.inr x0)), some (.inl x1), some (.inl (zi_w (x2 + 1)))] [] q2.2) else none) else none) else (if 0 = 0 ∨ 0 = 1 then some (0, σ) else none) else none) := rfl
theorem ze_9_0 {G : Nat → List zV → zM → zR} {K : Nat → zL → List zV → zM → zR} {x0 x1 : Int} {σ : zM} : zi_fr zt_9 G K 600 0 [some (.inr (.inr x0)), some (.inl x1), none] [] σ = (K 2 [some (.inr (.inr x0)), some (.inl x1), some (.inl 0)] [] σ) := rfl
theorem ze_9_2 {G : Nat → List zV → zM → zR} {K : Nat → zL → List zV → zM → zR} {x0 x1 x2 : Int} {σ : zM} : zi_fr zt_9 G K 600 2 [some (.inr (.inr x0)), some (.inl x1), some (.inl x2)] [] σ = (if (σ.1 x0).1 = 0 then if x2 < (σ.2.1 x0 0) then (if ((σ.1 x0).1 : Int) = 0 then (G 4 [.inr (.inr x0), .inl x2] σ).bind fun q1 => if q1.1 = 0 then (K 2 [some (.inr (.inr x0)), some (.inl x1), some (.inl (zi_w (x2 + 1)))] [] q1.2) else (if ((q1.2.1 x0).1 : Int) = 0 then (G 2 [.inr (.inr x0), .inl x2] q1.2).bind fun q2 => if q2.1 = x1 then (if 1 = 0 ∨ 1 = 1 then some (1, q2.2) else none) else (K 2 [some (.inr (.inr x0)), some (.inl x1), some (.inl (zi_w (x2 + 1)))] [] q2.2) else none) else none) else (if 0 = 0 ∨ 0 = 1 then some (0, σ) else none) else none) := rfl
theorem ze_10_0 {G : Nat → List zV → zM → zR} {K : Nat → zL → List zV → zM → zR} {x0 x1 x2 : Int} {σ : zM} : zi_fr zt_10 G K 600 0 [some (.inr (.inr x0)), some (.inl x1), some (.inl x2), none] [] σ = (K 2 [some (.inr (.inr x0)), some (.inl x1), some (.inl x2), some (.inl 0)] [] σ) := rfl
theorem ze_10_2 {G : Nat → List zV → zM → zR} {K : Nat → zL → List zV → zM → zR} {x0 x1 x2 x3 : Int} {σ : zM} : zi_fr zt_10 G K 600 2 [some (.inr (.inr x0)), some (.inl x1), some (.inl x2), some (.inl x3)] [] σ = (if (σ.1 x0).1 = 0 then if x3 < (σ.2.1 x0 0) then (if ((σ.1 x0).1 : Int) = 0 then (G 2 [.inr (.inr x0), .inl x3] σ).bind fun q1 => if ((q1.2.1 x0).1 : Int) = 0 then (G 3 [.inr (.inr x0), .inl x3] q1.2).bind fun q2 => (G 17 [.inl q1.1, .inl q2.1, .inl x1, .inl x2] q2.2).bind fun q3 => if q3.1 = 0 then (K 2 [some (.inr (.inr x0)), some (.inl x1), some (.inl x2), some (.inl (zi_w (x3 + 1)))] [] q3.2) else (if 1 = 0 ∨ 1 = 1 then some (1, q3.2) else none) else none else none) else (if 0 = 0 ∨ 0 = 1 then some (0, σ) else none) else none) := rfl
theorem ze_11_0 {G : Nat → List zV → zM → zR} {K : Nat → zL → List zV → zM → zR} {x0 x1 x2 : Int} {σ : zM} : zi_fr zt_11 G K 600 0 [some (.inr (.inr x0)), some (.inl x1), some (.inl x2), none] [] σ = (if (σ.1 x0).1 = 0 then K 5 [some (.inr (.inr x0)), some (.inl x1), some (.inl x2), some (.inl (σ.2.1 x0 0))] [] σ else none) := rfl
theorem ze_11_5 {G : Nat → List zV → zM → zR} {K : Nat → zL → List zV → zM → zR} {x0 x1 x2 x3 : Int} {σ : zM} : zi_fr zt_11 G K 600 5 [some (.inr (.inr x0)), some (.inl x1), some (.inl x2), some (.inl x3)] [] σ = (if 0 < x3 then (if ((σ.1 x0).1 : Int) = 0 then (G 2 [.inr (.inr x0), .inl (zi_w (x3 - 1))] σ).bind fun q3 => if ((q3.2.1 x0).1 : Int) = 0 then (G 3 [.inr (.inr x0), .inl (zi_w (x3 - 1))] q3.2).bind fun q4 => (G 18 [.inl x1, .inl x2, .inl q3.1, .inl q4.1] q4.2).bind fun q5 => if q5.1 = 0 then (if ((q5.2.1 x0).1 : Int) = 0 then (G 19 [.inr (.inr x0), .inl x3, .inl x1, .inl x2, .inl 0] q5.2).bind fun q6 => if (q6.2.1 x0).1 = 0 then if (q6.2.1 x0).1 = 0 then let s7 : zM := zi_wr q6.2 x0 0 (zi_w ((q6.2.2.1 x0 0) + 1)); some (x3, s7) else none else none else none) else (if ((q5.2.1 x0).1 : Int) = 0 then (G 2 [.inr (.inr x0), .inl (zi_w (x3 - 1))] q5.2).bind fun q8 => if ((q8.2.1 x0).1 : Int) = 0 then (G 3 [.inr (.inr x0), .inl (zi_w (x3 - 1))] q8.2).bind fun q9 => if (q9.2.1 x0).1 = 0 then (G 73 [.inr (.inr (q9.2.2.1 x0 3)), .inl (zi_w (x3 - 1))] q9.2).bind fun q10 => if ((q10.2.1 x0).1 : Int) = 0 then (G 19 [.inr (.inr x0), .inl x3, .inl q8.1, .inl q9.1, .inl q10.1] q10.2).bind fun q11 => K 5 [some (.inr (.inr x0)), some (.inl x1), some (.inl x2), some (.inl (zi_w (x3 + (-1))))] [] q11.2 else none else none else none else none) else none else none) else (if ((σ.1 x0).1 : Int) = 0 then (G 19 [.inr (.inr x0), .inl x3, .inl x1, .inl x2, .inl 0] σ).bind fun q1 => if (q1.2.1 x0).1 = 0 then if (q1.2.1 x0).1 = 0 then let s2 : zM := zi_wr q1.2 x0 0 (zi_w ((q1.2.2.1 x0 0) + 1)); some (x3, s2) else none else none else none)) := rfl
theorem ze_12_0 {G : Nat → List zV → zM → zR} {K : Nat → zL → List zV → zM → zR} {x0 x1 : Int} {σ : zM} : zi_fr zt_12 G K 600 0 [some (.inr (.inr x0)), some (.inl x1), none] [] σ = (K 4 [some (.inr (.inr x0)), none, some (.inl (zi_w (x1 + 1)))] [] σ) := rfl
theorem ze_12_4 {G : Nat → List zV → zM → zR} {K : Nat → zL → List zV → zM → zR} {x0 x2 : Int} {σ : zM} : zi_fr zt_12 G K 600 4 [some (.inr (.inr x0)), none, some (.inl x2)] [] σ = (if (σ.1 x0).1 = 0 then if x2 < (σ.2.1 x0 0) then (if ((σ.1 x0).1 : Int) = 0 then (G 2 [.inr (.inr x0), .inl x2] σ).bind fun q2 => if ((q2.2.1 x0).1 : Int) = 0 then (G 3 [.inr (.inr x0), .inl x2] q2.2).bind fun q3 => if (q3.2.1 x0).1 = 0 then (G 73 [.inr (.inr (q3.2.2.1 x0 3)), .inl x2] q3.2).bind fun q4 => if ((q4.2.1 x0).1 : Int) = 0 then (G 19 [.inr (.inr x0), .inl (zi_w (x2 - 1)), .inl q2.1, .inl q3.1, .inl q4.1] q4.2).bind fun q5 => K 4 [some (.inr (.inr x0)), none, some (.inl (zi_w (x2 + 1)))] [] q5.2 else none else none else none else none) else (if (σ.1 x0).1 = 0 then if (σ.1 x0).1 = 0 then let s1 : zM := zi_wr σ x0 0 (zi_w ((σ.2.1 x0 0) - 1)); some (0, s1) else none else none) else none) := rfl
theorem ze_13_0 {G : Nat → List zV → zM → zR} {K : Nat → zL → List zV → zM → zR} {x0 : Int} {σ : zM} : zi_fr zt_13 G K 600 0 [some (.inr (.inr x0))] [] σ = (if (σ.1 x0).1 = 0 then let s1 : zM := zi_wr σ x0 0 0; some (0, s1) else none) := rfl
theorem ze_14_0 {G : Nat → List zV → zM → zR} {K : Nat → zL → List zV → zM → zR} {x0 x1 : Int} {σ : zM} : zi_fr zt_14 G K 600 0 [some (.inr (.inr x0)), some (.inl x1), none] [] σ = (K 2 [some (.inr (.inr x0)), some (.inl x1), some (.inl 0)] [] σ) := rfl
theorem ze_14_2 {G : Nat → List zV → zM → zR} {K : Nat → zL → List zV → zM → zR} {x0 x1 x2 : Int} {σ : zM} : zi_fr zt_14 G K 600 2 [some (.inr (.inr x0)), some (.inl x1), some (.inl x2)] [] σ = (if (σ.1 x0).1 = 0 then if x2 < (σ.2.1 x0 0) then (if (σ.1 x0).1 = 0 then if ((σ.1 x0).1 : Int) = 0 then (G 2 [.inr (.inr x0), .inl x2] σ).bind fun q1 => if x1 < q1.1 then (if ((q1.2.1 x0).1 : Int) = 0 then (G 2 [.inr (.inr x0), .inl x2] q1.2).bind fun q9 => (G 74 [.inr (.inr (σ.2.1 x0 1)), .inl x2, .inl (zi_w (q9.1 + 1))] q9.2).bind fun q10 => if (q10.2.1 x0).1 = 0 then if ((q10.2.1 x0).1 : Int) = 0 then (G 3 [.inr (.inr x0), .inl x2] q10.2).bind fun q11 => if q11.1 < x1 then (if ((q11.2.1 x0).1 : Int) = 0 then (G 3 [.inr (.inr x0), .inl x2] q11.2).bind fun q12 => (G 74 [.inr (.inr (q10.2.2.1 x0 2)), .inl x2, .inl q12.1] q12.2).bind fun q13 => K 2 [some (.inr (.inr x0)), some (.inl x1), some (.inl (zi_w (x2 + 1)))] [] q13.2 else none) else (if ((q11.2.1 x0).1 : Int) = 0 then (G 3 [.inr (.inr x0), .inl x2] q11.2).bind fun q14 => (G 74 [.inr (.inr (q10.2.2.1 x0 2)), .inl x2, .inl (zi_w (q14.1 + 1))] q14.2).bind fun q15 => K 2 [some (.inr (.inr x0)), some (.inl x1), some (.inl (zi_w (x2 + 1)))] [] q15.2 else none) else none else none else none) else (if ((q1.2.1 x0).1 : Int) = 0 then (G 2 [.inr (.inr x0), .inl x2] q1.2).bind fun q2 => (G 74 [.inr (.inr (σ.2.1 x0 1)), .inl x2, .inl q2.1] q2.2).bind fun q3 => if (q3.2.1 x0).1 = 0 then if ((q3.2.1 x0).1 : Int) = 0 then (G 3 [.inr (.inr x0), .inl x2] q3.2).bind fun q4 => if q4.1 < x1 then (if ((q4.2.1 x0).1 : Int) = 0 then (G 3 [.inr (.inr x0), .inl x2] q4.2).bind fun q5 => (G 74 [.inr (.inr (q3.2.2.1 x0 2)), .inl x2, .inl q5.1] q5.2).bind fun q6 => K 2 [some (.inr (.inr x0)), some (.inl x1), some (.inl (zi_w (x2 + 1)))] [] q6.2 else none) else (if ((q4.2.1 x0).1 : Int) = 0 then (G 3 [.inr (.inr x0), .inl x2] q4.2).bind fun q7 => (G 74 [.inr (.inr (q3.2.2.1 x0 2)), .inl x2, .inl (zi_w (q7.1 + 1))] q7.2).bind fun q8 => K 2 [some (.inr (.inr x0)), some (.inl x1), some (.inl (zi_w (x2 + 1)))] [] q8.2 else none) else none else none else none) else none else none) else (some (0, σ)) else none) := rfl
theorem ze_15_0 {G : Nat → List zV → zM → zR} {K : Nat → zL → List zV → zM → zR} {x0 x1 : Int} {σ : zM} : zi_fr zt_15 G K 600 0 [some (.inr (.inr x0)), some (.inl x1), none, none, none, none] [] σ = (if (σ.1 x0).1 = 0 then if (σ.1 x0).1 = 0 then let s1 : zM := zi_wr σ x0 0 0; K 12 [some (.inr (.inr x0)), some (.inl x1), some (.inl (σ.2.1 x0 0)), some (.inl 0), none, none] [] s1 else none else none) := rfl
theorem ze_15_12 {G : Nat → List zV → zM → zR} {K : Nat → zL → List zV → zM → zR} {x0 x1 x2 x3 : Int} {σ : zM} : zi_fr zt_15 G K 600 12 [some (.inr (.inr x0)), some (.inl x1), some (.inl x2), some (.inl x3), none, none] [] σ = (if x3 < x2 then (if ((σ.1 x0).1 : Int) = 0 then (G 2 [.inr (.inr x0), .inl x3] σ).bind fun q1 => if x1 < q1.1 then (if ((q1.2.1 x0).1 : Int) = 0 then (G 2 [.inr (.inr x0), .inl x3] q1.2).bind fun q6 => if ((q6.2.1 x0).1 : Int) = 0 then (G 3 [.inr (.inr x0), .inl x3] q6.2).bind fun q7 => if x1 < q7.1 then (if ((q7.2.1 x0).1 : Int) = 0 then (G 3 [.inr (.inr x0), .inl x3] q7.2).bind fun q9 => K 67 [some (.inr (.inr x0)), some (.inl x1), some (.inl x2), some (.inl x3), some (.inl (zi_w (q6.1 - 1))), none] [.inl (zi_w (q9.1 - 1))] q9.2 else none) else (if ((q7.2.1 x0).1 : Int) = 0 then (G 3 [.inr (.inr x0), .inl x3] q7.2).bind fun q8 => K 67 [some (.inr (.inr x0)), some (.inl x1), some (.inl x2), some (.inl x3), some (.inl (zi_w (q6.1 - 1))), none] [.inl q8.1] q8.2 else none) else none else none) else (if ((q1.2.1 x0).1 : Int) = 0 then (G 2 [.inr (.inr x0), .inl x3] q1.2).bind fun q2 => if ((q2.2.1 x0).1 : Int) = 0 then (G 3 [.inr (.inr x0), .inl x3] q2.2).bind fun q3 => if x1 < q3.1 then (if ((q3.2.1 x0).1 : Int) = 0 then (G 3 [.inr (.inr x0), .inl x3] q3.2).bind fun q5 => K 67 [some (.inr (.inr x0)), some (.inl x1), some (.inl x2), some (.inl x3), some (.inl q2.1), none] [.inl (zi_w (q5.1 - 1))] q5.2 else none) else (if ((q3.2.1 x0).1 : Int) = 0 then (G 3 [.inr (.inr x0), .inl x3] q3.2).bind fun q4 => K 67 [some (.inr (.inr x0)), some (.inl x1), some (.inl x2), some (.inl x3), some (.inl q2.1), none] [.inl q4.1] q4.2 else none) else none else none) else none) else (some (0, σ))) := rfl
theorem ze_15_67 {G : Nat → List zV → zM → zR} {K : Nat → zL → List zV → zM → zR} {x0 x1 x2 x3 x4 y0 : Int} {σ : zM} : zi_fr zt_15 G K 600 67 [some (.inr (.inr x0)), some (.inl x1), some (.inl x2), some (.inl x3), some (.inl x4), none] [.inl y0] σ = (if x4 < y0 then (if ((σ.1 x0).1 : Int) = 0 then (G 10 [.inr (.inr x0), .inl x4, .inl y0] σ).bind fun q1 => if q1.1 = 0 then (if (q1.2.1 x0).1 = 0 then if (q1.2.1 x0).1 = 0 then (G 73 [.inr (.inr (q1.2.2.1 x0 3)), .inl x3] q1.2).bind fun q2 => if ((q2.2.1 x0).1 : Int) = 0 then (G 19 [.inr (.inr x0), .inl (q1.2.2.1 x0 0), .inl x4, .inl y0, .inl q2.1] q2.2).bind fun q3 => if (q3.2.1 x0).1 = 0 then if (q3.2.1 x0).1 = 0 then let s4 : zM := zi_wr q3.2 x0 0 (zi_w ((q3.2.2.1 x0 0) + 1)); K 12 [some (.inr (.inr x0)), some (.inl x1), some (.inl x2), some (.inl (zi_w (x3 + 1))), none, none] [] s4 else none else none else none else none else none) else (K 12 [some (.inr (.inr x0)), some (.inl x1), some (.inl x2), some (.inl (zi_w (x3 + 1))), none, none] [] q1.2) else none) else (K 12 [some (.inr (.inr x0)), some (.inl x1), some (.inl x2), some (.inl (zi_w (x3 + 1))), none, none] [] σ)) := rfl
theorem ze_16_0 {G : Nat → List zV → zM → zR} {K : Nat → zL → List zV → zM → zR} {x0 x1 : Int} {σ : zM} : zi_fr zt_16 G K 600 0 [some (.inr (.inr x0)), some (.inr (.inr x1))] [] σ = (if (σ.1 x1).1 = 0 then if (σ.1 x0).1 = 0 then let s1 : zM := zi_wr σ x0 0 (σ.2.1 x1 0); if (s1.1 x1).1 = 0 then if (s1.1 x0).1 = 0 then (G 75 [.inr (.inr (s1.2.1 x1 1)), .inr (.inr (s1.2.1 x0 1))] s1).bind fun q2 => if (q2.2.1 x1).1 = 0 then if (q2.2.1 x0).1 = 0 then (G 75 [.inr (.inr (q2.2.2.1 x1 2)), .inr (.inr (q2.2.2.1 x0 2))] q2.2).bind fun q3 => if (q3.2.1 x1).1 = 0 then if (q3.2.1 x0).1 = 0 then (G 75 [.inr (.inr (q3.2.2.1 x1 3)), .inr (.inr (q3.2.2.1 x0 3))] q3.2).bind fun q4 => some (0, q4.2) else none else none else none else none else none else none else none else none) := rfl
theorem ze_17_0 {G : Nat → List zV → zM → zR} {K : Nat → zL → List zV → zM → zR} {x0 x1 x2 x3 : Int} {σ : zM} : zi_fr zt_17 G K 600 0 [some (.inl x0), some (.inl x1), some (.inl x2), some (.inl x3), none, none] [] σ = (if x0 = x2 then (if x1 = x3 then (if 1 = 0 ∨ 1 = 1 then some (1, σ) else none) else (K 12 [some (.inl x0), some (.inl x1), some (.inl x2), some (.inl x3), none, none] [] σ)) else (K 12 [some (.inl x0), some (.inl x1), some (.inl x2), some (.inl x3), none, none] [] σ)) := rfl
theorem ze_17_12 {G : Nat → List zV → zM → zR} {K : Nat → zL → List zV → zM → zR} {x0 x1 x2 x3 : Int} {σ : zM} : zi_fr zt_17 G K 600 12 [some (.inl x0), some (.inl x1), some (.inl x2), some (.inl x3), none, none] [] σ = (if x1 < x2 then (K 27 [some (.inl x0), some (.inl x1), some (.inl x2), some (.inl x3), none, none] [.inl 1] σ) else (if x3 < x0 then (K 27 [some (.inl x0), some (.inl x1), some (.inl x2), some (.inl x3), none, none] [.inl 1] σ) else (K 27 [some (.inl x0), some (.inl x1), some (.inl x2), some (.inl x3), none, none] [.inl 0] σ))) := rfl
theorem ze_17_27 {G : Nat → List zV → zM → zR} {K : Nat → zL → List zV → zM → zR} {x0 x1 x2 x3 y0 : Int} {σ : zM} : zi_fr zt_17 G K 600 27 [some (.inl x0), some (.inl x1), some (.inl x2), some (.inl x3), none, none] [.inl y0] σ = (if x2 < x0 then (if x0 < x2 then (K 54 [none, none, none, none, some (.inl y0), none] [.inl 0] σ) else (if x3 < x1 then (K 54 [none, none, none, none, some (.inl y0), none] [.inl 0] σ) else (K 54 [none, none, none, none, some (.inl y0), none] [.inl 1] σ))) else (if x1 < x3 then (if x0 < x2 then (K 54 [none, none, none, none, some (.inl y0), none] [.inl 0] σ) else (if x3 < x1 then (K 54 [none, none, none, none, some (.inl y0), none] [.inl 0] σ) else (K 54 [none, none, none, none, some (.inl y0), none] [.inl 1] σ))) else (K 54 [none, none, none, none, some (.inl y0), none] [.inl 1] σ))) := rfl
theorem ze_17_54 {G : Nat → List zV → zM → zR} {K : Nat → zL → List zV → zM → zR} {x4 y0 : Int} {σ : zM} : zi_fr zt_17 G K 600 54 [none, none, none, none, some (.inl x4), none] [.inl y0] σ = (if x4 = 0 then (if y0 = 0 then (if 1 = 0 ∨ 1 = 1 then some (1, σ) else none) else (if 0 = 0 ∨ 0 = 1 then some (0, σ) else none)) else (if 0 = 0 ∨ 0 = 1 then some (0, σ) else none)) := rfl
theorem ze_18_0 {G : Nat → List zV → zM → zR} {K : Nat → zL → List zV → zM → zR} {x0 x1 x2 x3 : Int} {σ : zM} : zi_fr zt_18 G K 600 0 [some (.inl x0), some (.inl x1), some (.inl x2), some (.inl x3)] [] σ = (if x0 < x2 then (if 1 = 0 ∨ 1 = 1 then some (1, σ) else none) else (if x0 = x2 then (if x3 < x1 then (if 1 = 0 ∨ 1 = 1 then some (1, σ) else none) else (if 0 = 0 ∨ 0 = 1 then some (0, σ) else none)) else (if 0 = 0 ∨ 0 = 1 then some (0, σ) else none))) := rfl
theorem ze_19_0 {G : Nat → List zV → zM → zR} {K : Nat → zL → List zV → zM → zR} {x0 x1 x2 x3 x4 : Int} {σ : zM} : zi_fr zt_19 G K 600 0 [some (.inr (.inr x0)), some (.inl x1), some (.inl x2), some (.inl x3), some (.inl x4)] [] σ = (if (σ.1 x0).1 = 0 then (G 74 [.inr (.inr (σ.2.1 x0 1)), .inl x1, .inl x2] σ).bind fun q1 => if (q1.2.1 x0).1 = 0 then (G 74 [.inr (.inr (q1.2.2.1 x0 2)), .inl x1, .inl x3] q1.2).bind fun q2 => if (q2.2.1 x0).1 = 0 then (G 74 [.inr (.inr (q2.2.2.1 x0 3)), .inl x1, .inl x4] q2.2).bind fun q3 => some (0, q3.2) else none else none else none) := rfl
end
