section
-- ===== PART A: goes FIRST, ahead of the names: the tables' words, and 'selects' of the private methods out of them =====
/-- a private method of a class that the tables say can be made, by its rows of tables_1 -/
def lw_okq (q : MethodName × Nat) : Prop := (q.1.cls ≠ "java/lang/invoke/MethodHandle" ∧ q.1.cls ≠ "java/lang/invoke/VarHandle") ∧ Cond.instantiable q.1.cls q.2 ∈ tables_1 ∧ Cond.privateMethod q.1 ∈ tables_1 ∧ Cond.instanceMethod q.1 ∈ tables_1
theorem lw_p0 : lw_okq (⟨"ShapeTool$Reader", "start", "(LShapeTool$Tree;I)V"⟩, 8) := ⟨⟨by decide +kernel, by decide +kernel⟩, List.mem_of_getElem? (i := 112) (by decide +kernel), List.mem_of_getElem? (i := 282) (by decide +kernel), List.mem_of_getElem? (i := 283) (by decide +kernel)⟩
theorem lw_p1 : lw_okq (⟨"ShapeTool$Reader", "skipBlanks", "(LShapeTool$Tree;)V"⟩, 8) := ⟨⟨by decide +kernel, by decide +kernel⟩, List.mem_of_getElem? (i := 112) (by decide +kernel), List.mem_of_getElem? (i := 286) (by decide +kernel), List.mem_of_getElem? (i := 287) (by decide +kernel)⟩
theorem lw_p2 : lw_okq (⟨"ShapeTool$Reader", "readToken", "(LShapeTool$Tree;I)Z"⟩, 8) := ⟨⟨by decide +kernel, by decide +kernel⟩, List.mem_of_getElem? (i := 112) (by decide +kernel), List.mem_of_getElem? (i := 293) (by decide +kernel), List.mem_of_getElem? (i := 294) (by decide +kernel)⟩
theorem lw_p3 : lw_okq (⟨"ShapeTool$Reader", "readPiece", "(LShapeTool$Tree;I)Z"⟩, 8) := ⟨⟨by decide +kernel, by decide +kernel⟩, List.mem_of_getElem? (i := 112) (by decide +kernel), List.mem_of_getElem? (i := 297) (by decide +kernel), List.mem_of_getElem? (i := 298) (by decide +kernel)⟩
theorem lw_p4 : lw_okq (⟨"ShapeTool$Reader", "readAtom", "(LShapeTool$Tree;)Z"⟩, 8) := ⟨⟨by decide +kernel, by decide +kernel⟩, List.mem_of_getElem? (i := 112) (by decide +kernel), List.mem_of_getElem? (i := 304) (by decide +kernel), List.mem_of_getElem? (i := 305) (by decide +kernel)⟩
theorem lw_p5 : lw_okq (⟨"ShapeTool$Reader", "addPiece", "(LShapeTool$Tree;II)Z"⟩, 8) := ⟨⟨by decide +kernel, by decide +kernel⟩, List.mem_of_getElem? (i := 112) (by decide +kernel), List.mem_of_getElem? (i := 308) (by decide +kernel), List.mem_of_getElem? (i := 309) (by decide +kernel)⟩
theorem lw_p6 : lw_okq (⟨"ShapeTool$Reader", "readLettered", "(LShapeTool$Tree;I)Z"⟩, 8) := ⟨⟨by decide +kernel, by decide +kernel⟩, List.mem_of_getElem? (i := 112) (by decide +kernel), List.mem_of_getElem? (i := 312) (by decide +kernel), List.mem_of_getElem? (i := 313) (by decide +kernel)⟩
theorem lw_p7 : lw_okq (⟨"ShapeTool$Reader", "rowMayStand", "(LShapeTool$Tree;)Z"⟩, 8) := ⟨⟨by decide +kernel, by decide +kernel⟩, List.mem_of_getElem? (i := 112) (by decide +kernel), List.mem_of_getElem? (i := 323) (by decide +kernel), List.mem_of_getElem? (i := 324) (by decide +kernel)⟩
theorem lw_p8 : lw_okq (⟨"ShapeTool$Reader", "isWithinTerm", "(LShapeTool$Tree;)Z"⟩, 8) := ⟨⟨by decide +kernel, by decide +kernel⟩, List.mem_of_getElem? (i := 112) (by decide +kernel), List.mem_of_getElem? (i := 327) (by decide +kernel), List.mem_of_getElem? (i := 328) (by decide +kernel)⟩
theorem lw_p9 : lw_okq (⟨"ShapeTool$Reader", "readDeep", "(LShapeTool$Tree;)Z"⟩, 8) := ⟨⟨by decide +kernel, by decide +kernel⟩, List.mem_of_getElem? (i := 112) (by decide +kernel), List.mem_of_getElem? (i := 331) (by decide +kernel), List.mem_of_getElem? (i := 332) (by decide +kernel)⟩
theorem lw_p10 : lw_okq (⟨"ShapeTool$Reader", "readClosing", "(LShapeTool$Tree;)Z"⟩, 8) := ⟨⟨by decide +kernel, by decide +kernel⟩, List.mem_of_getElem? (i := 112) (by decide +kernel), List.mem_of_getElem? (i := 335) (by decide +kernel), List.mem_of_getElem? (i := 336) (by decide +kernel)⟩
theorem lw_p11 : lw_okq (⟨"ShapeTool$Reader", "readOpening", "(LShapeTool$Tree;)Z"⟩, 8) := ⟨⟨by decide +kernel, by decide +kernel⟩, List.mem_of_getElem? (i := 112) (by decide +kernel), List.mem_of_getElem? (i := 339) (by decide +kernel), List.mem_of_getElem? (i := 340) (by decide +kernel)⟩
theorem lw_p12 : lw_okq (⟨"ShapeTool$Reader", "readBehindPiece", "(LShapeTool$Tree;I)Z"⟩, 8) := ⟨⟨by decide +kernel, by decide +kernel⟩, List.mem_of_getElem? (i := 112) (by decide +kernel), List.mem_of_getElem? (i := 343) (by decide +kernel), List.mem_of_getElem? (i := 344) (by decide +kernel)⟩
theorem lw_p13 : lw_okq (⟨"ShapeTool", "adoptSpare", "(I)V"⟩, 11) := ⟨⟨by decide +kernel, by decide +kernel⟩, List.mem_of_getElem? (i := 17) (by decide +kernel), List.mem_of_getElem? (i := 347) (by decide +kernel), List.mem_of_getElem? (i := 348) (by decide +kernel)⟩
theorem lw_p14 : lw_okq (⟨"ShapeTool$Tree", "looksAlike", "(II)Z"⟩, 13) := ⟨⟨by decide +kernel, by decide +kernel⟩, List.mem_of_getElem? (i := 25) (by decide +kernel), List.mem_of_getElem? (i := 359) (by decide +kernel), List.mem_of_getElem? (i := 360) (by decide +kernel)⟩
theorem lw_p15 : lw_okq (⟨"ShapeTool$Finder", "countSingles", "(I)I"⟩, 16) := ⟨⟨by decide +kernel, by decide +kernel⟩, List.mem_of_getElem? (i := 143) (by decide +kernel), List.mem_of_getElem? (i := 374) (by decide +kernel), List.mem_of_getElem? (i := 375) (by decide +kernel)⟩
def lw_privs_1 : List (MethodName × Nat) := [(⟨"ShapeTool$Reader", "start", "(LShapeTool$Tree;I)V"⟩, 8), (⟨"ShapeTool$Reader", "skipBlanks", "(LShapeTool$Tree;)V"⟩, 8), (⟨"ShapeTool$Reader", "readToken", "(LShapeTool$Tree;I)Z"⟩, 8), (⟨"ShapeTool$Reader", "readPiece", "(LShapeTool$Tree;I)Z"⟩, 8), (⟨"ShapeTool$Reader", "readAtom", "(LShapeTool$Tree;)Z"⟩, 8), (⟨"ShapeTool$Reader", "addPiece", "(LShapeTool$Tree;II)Z"⟩, 8), (⟨"ShapeTool$Reader", "readLettered", "(LShapeTool$Tree;I)Z"⟩, 8), (⟨"ShapeTool$Reader", "rowMayStand", "(LShapeTool$Tree;)Z"⟩, 8), (⟨"ShapeTool$Reader", "isWithinTerm", "(LShapeTool$Tree;)Z"⟩, 8), (⟨"ShapeTool$Reader", "readDeep", "(LShapeTool$Tree;)Z"⟩, 8), (⟨"ShapeTool$Reader", "readClosing", "(LShapeTool$Tree;)Z"⟩, 8), (⟨"ShapeTool$Reader", "readOpening", "(LShapeTool$Tree;)Z"⟩, 8), (⟨"ShapeTool$Reader", "readBehindPiece", "(LShapeTool$Tree;I)Z"⟩, 8), (⟨"ShapeTool", "adoptSpare", "(I)V"⟩, 11), (⟨"ShapeTool$Tree", "looksAlike", "(II)Z"⟩, 13), (⟨"ShapeTool$Finder", "countSingles", "(I)I"⟩, 16)]
theorem lw_r1 : ∀ q ∈ lw_privs_1, lw_okq q := List.forall_mem_cons.mpr ⟨lw_p0, List.forall_mem_cons.mpr ⟨lw_p1, List.forall_mem_cons.mpr ⟨lw_p2, List.forall_mem_cons.mpr ⟨lw_p3, List.forall_mem_cons.mpr ⟨lw_p4, List.forall_mem_cons.mpr ⟨lw_p5, List.forall_mem_cons.mpr ⟨lw_p6, List.forall_mem_cons.mpr ⟨lw_p7, List.forall_mem_cons.mpr ⟨lw_p8, List.forall_mem_cons.mpr ⟨lw_p9, List.forall_mem_cons.mpr ⟨lw_p10, List.forall_mem_cons.mpr ⟨lw_p11, List.forall_mem_cons.mpr ⟨lw_p12, List.forall_mem_cons.mpr ⟨lw_p13, List.forall_mem_cons.mpr ⟨lw_p14, List.forall_mem_cons.mpr ⟨lw_p15, fun _ h => absurd h List.not_mem_nil⟩⟩⟩⟩⟩⟩⟩⟩⟩⟩⟩⟩⟩⟩⟩⟩
theorem lw_p16 : lw_okq (⟨"ShapeTool", "writeFed", "(II)I"⟩, 11) := ⟨⟨by decide +kernel, by decide +kernel⟩, List.mem_of_getElem? (i := 17) (by decide +kernel), List.mem_of_getElem? (i := 420) (by decide +kernel), List.mem_of_getElem? (i := 421) (by decide +kernel)⟩
theorem lw_p17 : lw_okq (⟨"ShapeTool", "readTape", "(I)I"⟩, 11) := ⟨⟨by decide +kernel, by decide +kernel⟩, List.mem_of_getElem? (i := 17) (by decide +kernel), List.mem_of_getElem? (i := 432) (by decide +kernel), List.mem_of_getElem? (i := 433) (by decide +kernel)⟩
theorem lw_p18 : lw_okq (⟨"ShapeTool", "isNode", "(I)Z"⟩, 11) := ⟨⟨by decide +kernel, by decide +kernel⟩, List.mem_of_getElem? (i := 17) (by decide +kernel), List.mem_of_getElem? (i := 471) (by decide +kernel), List.mem_of_getElem? (i := 472) (by decide +kernel)⟩
theorem lw_p19 : lw_okq (⟨"ShapeTool$Finder", "firstFailing", "(I)I"⟩, 16) := ⟨⟨by decide +kernel, by decide +kernel⟩, List.mem_of_getElem? (i := 143) (by decide +kernel), List.mem_of_getElem? (i := 502) (by decide +kernel), List.mem_of_getElem? (i := 503) (by decide +kernel)⟩
theorem lw_p20 : lw_okq (⟨"ShapeTool$Finder", "rowFits", "(I)Z"⟩, 16) := ⟨⟨by decide +kernel, by decide +kernel⟩, List.mem_of_getElem? (i := 143) (by decide +kernel), List.mem_of_getElem? (i := 506) (by decide +kernel), List.mem_of_getElem? (i := 507) (by decide +kernel)⟩
theorem lw_p21 : lw_okq (⟨"ShapeTool$Finder", "rowsAlike", "(II)Z"⟩, 16) := ⟨⟨by decide +kernel, by decide +kernel⟩, List.mem_of_getElem? (i := 143) (by decide +kernel), List.mem_of_getElem? (i := 511) (by decide +kernel), List.mem_of_getElem? (i := 512) (by decide +kernel)⟩
theorem lw_p22 : lw_okq (⟨"ShapeTool$Finder", "seatPiece", "(II)Z"⟩, 16) := ⟨⟨by decide +kernel, by decide +kernel⟩, List.mem_of_getElem? (i := 143) (by decide +kernel), List.mem_of_getElem? (i := 515) (by decide +kernel), List.mem_of_getElem? (i := 516) (by decide +kernel)⟩
theorem lw_p23 : lw_okq (⟨"ShapeTool$Finder", "nextNode", "(I)I"⟩, 16) := ⟨⟨by decide +kernel, by decide +kernel⟩, List.mem_of_getElem? (i := 143) (by decide +kernel), List.mem_of_getElem? (i := 519) (by decide +kernel), List.mem_of_getElem? (i := 520) (by decide +kernel)⟩
theorem lw_p24 : lw_okq (⟨"ShapeTool$Finder", "termFits", "(II)Z"⟩, 16) := ⟨⟨by decide +kernel, by decide +kernel⟩, List.mem_of_getElem? (i := 143) (by decide +kernel), List.mem_of_getElem? (i := 523) (by decide +kernel), List.mem_of_getElem? (i := 524) (by decide +kernel)⟩
theorem lw_p25 : lw_okq (⟨"ShapeTool$Finder", "holeFits", "(II)Z"⟩, 16) := ⟨⟨by decide +kernel, by decide +kernel⟩, List.mem_of_getElem? (i := 143) (by decide +kernel), List.mem_of_getElem? (i := 528) (by decide +kernel), List.mem_of_getElem? (i := 529) (by decide +kernel)⟩
theorem lw_p26 : lw_okq (⟨"ShapeTool", "isBound", "(II)Z"⟩, 11) := ⟨⟨by decide +kernel, by decide +kernel⟩, List.mem_of_getElem? (i := 17) (by decide +kernel), List.mem_of_getElem? (i := 545) (by decide +kernel), List.mem_of_getElem? (i := 546) (by decide +kernel)⟩
theorem lw_p27 : lw_okq (⟨"ShapeTool$Chooser", "countWithin", "()V"⟩, 5) := ⟨⟨by decide +kernel, by decide +kernel⟩, List.mem_of_getElem? (i := 200) (by decide +kernel), List.mem_of_getElem? (i := 575) (by decide +kernel), List.mem_of_getElem? (i := 576) (by decide +kernel)⟩
theorem lw_p28 : lw_okq (⟨"ShapeTool", "mayPut", "(I)Z"⟩, 11) := ⟨⟨by decide +kernel, by decide +kernel⟩, List.mem_of_getElem? (i := 17) (by decide +kernel), List.mem_of_getElem? (i := 588) (by decide +kernel), List.mem_of_getElem? (i := 589) (by decide +kernel)⟩
theorem lw_p29 : lw_okq (⟨"ShapeTool", "putOnce", "(I)I"⟩, 11) := ⟨⟨by decide +kernel, by decide +kernel⟩, List.mem_of_getElem? (i := 17) (by decide +kernel), List.mem_of_getElem? (i := 597) (by decide +kernel), List.mem_of_getElem? (i := 598) (by decide +kernel)⟩
theorem lw_p30 : lw_okq (⟨"ShapeTool$Putter", "fillTemplate", "(LShapeTool$Tree;)Z"⟩, 4) := ⟨⟨by decide +kernel, by decide +kernel⟩, List.mem_of_getElem? (i := 226) (by decide +kernel), List.mem_of_getElem? (i := 607) (by decide +kernel), List.mem_of_getElem? (i := 608) (by decide +kernel)⟩
theorem lw_p31 : lw_okq (⟨"ShapeTool$Putter", "dropRowsOfNone", "()V"⟩, 4) := ⟨⟨by decide +kernel, by decide +kernel⟩, List.mem_of_getElem? (i := 226) (by decide +kernel), List.mem_of_getElem? (i := 611) (by decide +kernel), List.mem_of_getElem? (i := 612) (by decide +kernel)⟩
def lw_privs_2 : List (MethodName × Nat) := [(⟨"ShapeTool", "writeFed", "(II)I"⟩, 11), (⟨"ShapeTool", "readTape", "(I)I"⟩, 11), (⟨"ShapeTool", "isNode", "(I)Z"⟩, 11), (⟨"ShapeTool$Finder", "firstFailing", "(I)I"⟩, 16), (⟨"ShapeTool$Finder", "rowFits", "(I)Z"⟩, 16), (⟨"ShapeTool$Finder", "rowsAlike", "(II)Z"⟩, 16), (⟨"ShapeTool$Finder", "seatPiece", "(II)Z"⟩, 16), (⟨"ShapeTool$Finder", "nextNode", "(I)I"⟩, 16), (⟨"ShapeTool$Finder", "termFits", "(II)Z"⟩, 16), (⟨"ShapeTool$Finder", "holeFits", "(II)Z"⟩, 16), (⟨"ShapeTool", "isBound", "(II)Z"⟩, 11), (⟨"ShapeTool$Chooser", "countWithin", "()V"⟩, 5), (⟨"ShapeTool", "mayPut", "(I)Z"⟩, 11), (⟨"ShapeTool", "putOnce", "(I)I"⟩, 11), (⟨"ShapeTool$Putter", "fillTemplate", "(LShapeTool$Tree;)Z"⟩, 4), (⟨"ShapeTool$Putter", "dropRowsOfNone", "()V"⟩, 4)]
theorem lw_r2 : ∀ q ∈ lw_privs_2, lw_okq q := List.forall_mem_cons.mpr ⟨lw_p16, List.forall_mem_cons.mpr ⟨lw_p17, List.forall_mem_cons.mpr ⟨lw_p18, List.forall_mem_cons.mpr ⟨lw_p19, List.forall_mem_cons.mpr ⟨lw_p20, List.forall_mem_cons.mpr ⟨lw_p21, List.forall_mem_cons.mpr ⟨lw_p22, List.forall_mem_cons.mpr ⟨lw_p23, List.forall_mem_cons.mpr ⟨lw_p24, List.forall_mem_cons.mpr ⟨lw_p25, List.forall_mem_cons.mpr ⟨lw_p26, List.forall_mem_cons.mpr ⟨lw_p27, List.forall_mem_cons.mpr ⟨lw_p28, List.forall_mem_cons.mpr ⟨lw_p29, List.forall_mem_cons.mpr ⟨lw_p30, List.forall_mem_cons.mpr ⟨lw_p31, fun _ h => absurd h List.not_mem_nil⟩⟩⟩⟩⟩⟩⟩⟩⟩⟩⟩⟩⟩⟩⟩⟩
theorem lw_p32 : lw_okq (⟨"ShapeTool$Putter", "dropRow", "(I)V"⟩, 4) := ⟨⟨by decide +kernel, by decide +kernel⟩, List.mem_of_getElem? (i := 226) (by decide +kernel), List.mem_of_getElem? (i := 616) (by decide +kernel), List.mem_of_getElem? (i := 617) (by decide +kernel)⟩
theorem lw_p33 : lw_okq (⟨"ShapeTool$Putter", "dropBytes", "(II)V"⟩, 4) := ⟨⟨by decide +kernel, by decide +kernel⟩, List.mem_of_getElem? (i := 226) (by decide +kernel), List.mem_of_getElem? (i := 620) (by decide +kernel), List.mem_of_getElem? (i := 621) (by decide +kernel)⟩
theorem lw_p34 : lw_okq (⟨"ShapeTool$Putter", "pieceAhead", "(I)I"⟩, 4) := ⟨⟨by decide +kernel, by decide +kernel⟩, List.mem_of_getElem? (i := 226) (by decide +kernel), List.mem_of_getElem? (i := 624) (by decide +kernel), List.mem_of_getElem? (i := 625) (by decide +kernel)⟩
theorem lw_p35 : lw_okq (⟨"ShapeTool$Putter", "fillLetter", "(LShapeTool$Tree;I)Z"⟩, 4) := ⟨⟨by decide +kernel, by decide +kernel⟩, List.mem_of_getElem? (i := 226) (by decide +kernel), List.mem_of_getElem? (i := 629) (by decide +kernel), List.mem_of_getElem? (i := 630) (by decide +kernel)⟩
theorem lw_p36 : lw_okq (⟨"ShapeTool", "restoreWritten", "()V"⟩, 11) := ⟨⟨by decide +kernel, by decide +kernel⟩, List.mem_of_getElem? (i := 17) (by decide +kernel), List.mem_of_getElem? (i := 647) (by decide +kernel), List.mem_of_getElem? (i := 648) (by decide +kernel)⟩
theorem lw_p37 : lw_okq (⟨"java/lang/Throwable", "fillInStackTrace", "(I)Ljava/lang/Throwable;"⟩, 6) := ⟨⟨by decide +kernel, by decide +kernel⟩, List.mem_of_getElem? (i := 712) (by decide +kernel), List.mem_of_getElem? (i := 710) (by decide +kernel), List.mem_of_getElem? (i := 711) (by decide +kernel)⟩
theorem lw_p38 : lw_okq (⟨"ShapeToolModel", "read", "(LShapeToolModel$Tree;[BIII)I"⟩, 39) := ⟨⟨by decide +kernel, by decide +kernel⟩, List.mem_of_getElem? (i := 742) (by decide +kernel), List.mem_of_getElem? (i := 809) (by decide +kernel), List.mem_of_getElem? (i := 810) (by decide +kernel)⟩
theorem lw_p39 : lw_okq (⟨"ShapeToolModel", "piece", "(IZ)Z"⟩, 39) := ⟨⟨by decide +kernel, by decide +kernel⟩, List.mem_of_getElem? (i := 742) (by decide +kernel), List.mem_of_getElem? (i := 813) (by decide +kernel), List.mem_of_getElem? (i := 814) (by decide +kernel)⟩
theorem lw_p40 : lw_okq (⟨"ShapeToolModel", "look", "()I"⟩, 39) := ⟨⟨by decide +kernel, by decide +kernel⟩, List.mem_of_getElem? (i := 742) (by decide +kernel), List.mem_of_getElem? (i := 817) (by decide +kernel), List.mem_of_getElem? (i := 818) (by decide +kernel)⟩
theorem lw_p41 : lw_okq (⟨"ShapeToolModel", "term", "(I)Z"⟩, 39) := ⟨⟨by decide +kernel, by decide +kernel⟩, List.mem_of_getElem? (i := 742) (by decide +kernel), List.mem_of_getElem? (i := 827) (by decide +kernel), List.mem_of_getElem? (i := 828) (by decide +kernel)⟩
theorem lw_p42 : lw_okq (⟨"ShapeToolModel", "adds", "(II)I"⟩, 39) := ⟨⟨by decide +kernel, by decide +kernel⟩, List.mem_of_getElem? (i := 742) (by decide +kernel), List.mem_of_getElem? (i := 831) (by decide +kernel), List.mem_of_getElem? (i := 832) (by decide +kernel)⟩
theorem lw_p43 : lw_okq (⟨"ShapeToolModel", "opens", "()Z"⟩, 39) := ⟨⟨by decide +kernel, by decide +kernel⟩, List.mem_of_getElem? (i := 742) (by decide +kernel), List.mem_of_getElem? (i := 835) (by decide +kernel), List.mem_of_getElem? (i := 836) (by decide +kernel)⟩
theorem lw_p44 : lw_okq (⟨"ShapeToolModel", "wrong", "()Z"⟩, 39) := ⟨⟨by decide +kernel, by decide +kernel⟩, List.mem_of_getElem? (i := 742) (by decide +kernel), List.mem_of_getElem? (i := 839) (by decide +kernel), List.mem_of_getElem? (i := 840) (by decide +kernel)⟩
theorem lw_p45 : lw_okq (⟨"ShapeToolModel", "lettered", "(II)Z"⟩, 39) := ⟨⟨by decide +kernel, by decide +kernel⟩, List.mem_of_getElem? (i := 742) (by decide +kernel), List.mem_of_getElem? (i := 843) (by decide +kernel), List.mem_of_getElem? (i := 844) (by decide +kernel)⟩
theorem lw_p46 : lw_okq (⟨"ShapeToolModel", "put4", "(I)V"⟩, 39) := ⟨⟨by decide +kernel, by decide +kernel⟩, List.mem_of_getElem? (i := 742) (by decide +kernel), List.mem_of_getElem? (i := 976) (by decide +kernel), List.mem_of_getElem? (i := 977) (by decide +kernel)⟩
theorem lw_p47 : lw_okq (⟨"ShapeToolModel", "isNode", "(I)Z"⟩, 39) := ⟨⟨by decide +kernel, by decide +kernel⟩, List.mem_of_getElem? (i := 742) (by decide +kernel), List.mem_of_getElem? (i := 998) (by decide +kernel), List.mem_of_getElem? (i := 999) (by decide +kernel)⟩
def lw_privs_3 : List (MethodName × Nat) := [(⟨"ShapeTool$Putter", "dropRow", "(I)V"⟩, 4), (⟨"ShapeTool$Putter", "dropBytes", "(II)V"⟩, 4), (⟨"ShapeTool$Putter", "pieceAhead", "(I)I"⟩, 4), (⟨"ShapeTool$Putter", "fillLetter", "(LShapeTool$Tree;I)Z"⟩, 4), (⟨"ShapeTool", "restoreWritten", "()V"⟩, 11), (⟨"java/lang/Throwable", "fillInStackTrace", "(I)Ljava/lang/Throwable;"⟩, 6), (⟨"ShapeToolModel", "read", "(LShapeToolModel$Tree;[BIII)I"⟩, 39), (⟨"ShapeToolModel", "piece", "(IZ)Z"⟩, 39), (⟨"ShapeToolModel", "look", "()I"⟩, 39), (⟨"ShapeToolModel", "term", "(I)Z"⟩, 39), (⟨"ShapeToolModel", "adds", "(II)I"⟩, 39), (⟨"ShapeToolModel", "opens", "()Z"⟩, 39), (⟨"ShapeToolModel", "wrong", "()Z"⟩, 39), (⟨"ShapeToolModel", "lettered", "(II)Z"⟩, 39), (⟨"ShapeToolModel", "put4", "(I)V"⟩, 39), (⟨"ShapeToolModel", "isNode", "(I)Z"⟩, 39)]
theorem lw_r3 : ∀ q ∈ lw_privs_3, lw_okq q := List.forall_mem_cons.mpr ⟨lw_p32, List.forall_mem_cons.mpr ⟨lw_p33, List.forall_mem_cons.mpr ⟨lw_p34, List.forall_mem_cons.mpr ⟨lw_p35, List.forall_mem_cons.mpr ⟨lw_p36, List.forall_mem_cons.mpr ⟨lw_p37, List.forall_mem_cons.mpr ⟨lw_p38, List.forall_mem_cons.mpr ⟨lw_p39, List.forall_mem_cons.mpr ⟨lw_p40, List.forall_mem_cons.mpr ⟨lw_p41, List.forall_mem_cons.mpr ⟨lw_p42, List.forall_mem_cons.mpr ⟨lw_p43, List.forall_mem_cons.mpr ⟨lw_p44, List.forall_mem_cons.mpr ⟨lw_p45, List.forall_mem_cons.mpr ⟨lw_p46, List.forall_mem_cons.mpr ⟨lw_p47, fun _ h => absurd h List.not_mem_nil⟩⟩⟩⟩⟩⟩⟩⟩⟩⟩⟩⟩⟩⟩⟩⟩
theorem lw_p48 : lw_okq (⟨"ShapeToolModel", "areAlike", "(II)Z"⟩, 39) := ⟨⟨by decide +kernel, by decide +kernel⟩, List.mem_of_getElem? (i := 742) (by decide +kernel), List.mem_of_getElem? (i := 1002) (by decide +kernel), List.mem_of_getElem? (i := 1003) (by decide +kernel)⟩
theorem lw_p49 : lw_okq (⟨"ShapeToolModel", "isAtomAlike", "(LShapeToolModel$Tree;ILShapeToolModel$Tree;I)Z"⟩, 39) := ⟨⟨by decide +kernel, by decide +kernel⟩, List.mem_of_getElem? (i := 742) (by decide +kernel), List.mem_of_getElem? (i := 1006) (by decide +kernel), List.mem_of_getElem? (i := 1007) (by decide +kernel)⟩
theorem lw_p50 : lw_okq (⟨"ShapeToolModel", "all", "()I"⟩, 39) := ⟨⟨by decide +kernel, by decide +kernel⟩, List.mem_of_getElem? (i := 742) (by decide +kernel), List.mem_of_getElem? (i := 1018) (by decide +kernel), List.mem_of_getElem? (i := 1019) (by decide +kernel)⟩
theorem lw_p51 : lw_okq (⟨"ShapeToolModel", "isMatched", "(I)Z"⟩, 39) := ⟨⟨by decide +kernel, by decide +kernel⟩, List.mem_of_getElem? (i := 742) (by decide +kernel), List.mem_of_getElem? (i := 1022) (by decide +kernel), List.mem_of_getElem? (i := 1023) (by decide +kernel)⟩
theorem lw_p52 : lw_okq (⟨"ShapeToolModel", "task", "(IIIII)I"⟩, 39) := ⟨⟨by decide +kernel, by decide +kernel⟩, List.mem_of_getElem? (i := 742) (by decide +kernel), List.mem_of_getElem? (i := 1026) (by decide +kernel), List.mem_of_getElem? (i := 1027) (by decide +kernel)⟩
theorem lw_p53 : lw_okq (⟨"ShapeToolModel", "does", "(I)Z"⟩, 39) := ⟨⟨by decide +kernel, by decide +kernel⟩, List.mem_of_getElem? (i := 742) (by decide +kernel), List.mem_of_getElem? (i := 1030) (by decide +kernel), List.mem_of_getElem? (i := 1031) (by decide +kernel)⟩
theorem lw_p54 : lw_okq (⟨"ShapeToolModel", "differAll", "()Z"⟩, 39) := ⟨⟨by decide +kernel, by decide +kernel⟩, List.mem_of_getElem? (i := 742) (by decide +kernel), List.mem_of_getElem? (i := 1034) (by decide +kernel), List.mem_of_getElem? (i := 1035) (by decide +kernel)⟩
theorem lw_p55 : lw_okq (⟨"ShapeToolModel", "whole", "(III)Z"⟩, 39) := ⟨⟨by decide +kernel, by decide +kernel⟩, List.mem_of_getElem? (i := 742) (by decide +kernel), List.mem_of_getElem? (i := 1038) (by decide +kernel), List.mem_of_getElem? (i := 1039) (by decide +kernel)⟩
theorem lw_p56 : lw_okq (⟨"ShapeToolModel", "isWithin", "(II)Z"⟩, 39) := ⟨⟨by decide +kernel, by decide +kernel⟩, List.mem_of_getElem? (i := 742) (by decide +kernel), List.mem_of_getElem? (i := 1042) (by decide +kernel), List.mem_of_getElem? (i := 1043) (by decide +kernel)⟩
theorem lw_p57 : lw_okq (⟨"ShapeToolModel", "some", "(I)Z"⟩, 39) := ⟨⟨by decide +kernel, by decide +kernel⟩, List.mem_of_getElem? (i := 742) (by decide +kernel), List.mem_of_getElem? (i := 1046) (by decide +kernel), List.mem_of_getElem? (i := 1047) (by decide +kernel)⟩
theorem lw_p58 : lw_okq (⟨"ShapeToolModel", "isRowAlike", "(IIII)Z"⟩, 39) := ⟨⟨by decide +kernel, by decide +kernel⟩, List.mem_of_getElem? (i := 742) (by decide +kernel), List.mem_of_getElem? (i := 1050) (by decide +kernel), List.mem_of_getElem? (i := 1051) (by decide +kernel)⟩
theorem lw_p59 : lw_okq (⟨"ShapeToolModel", "kindOf", "(LShapeToolModel$Tree;I)I"⟩, 39) := ⟨⟨by decide +kernel, by decide +kernel⟩, List.mem_of_getElem? (i := 742) (by decide +kernel), List.mem_of_getElem? (i := 1062) (by decide +kernel), List.mem_of_getElem? (i := 1063) (by decide +kernel)⟩
theorem lw_p60 : lw_okq (⟨"ShapeToolModel", "takeBy", "(I)I"⟩, 39) := ⟨⟨by decide +kernel, by decide +kernel⟩, List.mem_of_getElem? (i := 742) (by decide +kernel), List.mem_of_getElem? (i := 1074) (by decide +kernel), List.mem_of_getElem? (i := 1075) (by decide +kernel)⟩
theorem lw_p61 : lw_okq (⟨"ShapeToolModel", "puts", "(I)I"⟩, 39) := ⟨⟨by decide +kernel, by decide +kernel⟩, List.mem_of_getElem? (i := 742) (by decide +kernel), List.mem_of_getElem? (i := 1086) (by decide +kernel), List.mem_of_getElem? (i := 1087) (by decide +kernel)⟩
theorem lw_p62 : lw_okq (⟨"ShapeToolModel", "copy", "(LShapeToolModel$Tree;II)V"⟩, 39) := ⟨⟨by decide +kernel, by decide +kernel⟩, List.mem_of_getElem? (i := 742) (by decide +kernel), List.mem_of_getElem? (i := 1090) (by decide +kernel), List.mem_of_getElem? (i := 1091) (by decide +kernel)⟩
theorem lw_p63 : lw_okq (⟨"ShapeToolModel", "write", "()V"⟩, 39) := ⟨⟨by decide +kernel, by decide +kernel⟩, List.mem_of_getElem? (i := 742) (by decide +kernel), List.mem_of_getElem? (i := 1094) (by decide +kernel), List.mem_of_getElem? (i := 1095) (by decide +kernel)⟩
def lw_privs_4 : List (MethodName × Nat) := [(⟨"ShapeToolModel", "areAlike", "(II)Z"⟩, 39), (⟨"ShapeToolModel", "isAtomAlike", "(LShapeToolModel$Tree;ILShapeToolModel$Tree;I)Z"⟩, 39), (⟨"ShapeToolModel", "all", "()I"⟩, 39), (⟨"ShapeToolModel", "isMatched", "(I)Z"⟩, 39), (⟨"ShapeToolModel", "task", "(IIIII)I"⟩, 39), (⟨"ShapeToolModel", "does", "(I)Z"⟩, 39), (⟨"ShapeToolModel", "differAll", "()Z"⟩, 39), (⟨"ShapeToolModel", "whole", "(III)Z"⟩, 39), (⟨"ShapeToolModel", "isWithin", "(II)Z"⟩, 39), (⟨"ShapeToolModel", "some", "(I)Z"⟩, 39), (⟨"ShapeToolModel", "isRowAlike", "(IIII)Z"⟩, 39), (⟨"ShapeToolModel", "kindOf", "(LShapeToolModel$Tree;I)I"⟩, 39), (⟨"ShapeToolModel", "takeBy", "(I)I"⟩, 39), (⟨"ShapeToolModel", "puts", "(I)I"⟩, 39), (⟨"ShapeToolModel", "copy", "(LShapeToolModel$Tree;II)V"⟩, 39), (⟨"ShapeToolModel", "write", "()V"⟩, 39)]
theorem lw_r4 : ∀ q ∈ lw_privs_4, lw_okq q := List.forall_mem_cons.mpr ⟨lw_p48, List.forall_mem_cons.mpr ⟨lw_p49, List.forall_mem_cons.mpr ⟨lw_p50, List.forall_mem_cons.mpr ⟨lw_p51, List.forall_mem_cons.mpr ⟨lw_p52, List.forall_mem_cons.mpr ⟨lw_p53, List.forall_mem_cons.mpr ⟨lw_p54, List.forall_mem_cons.mpr ⟨lw_p55, List.forall_mem_cons.mpr ⟨lw_p56, List.forall_mem_cons.mpr ⟨lw_p57, List.forall_mem_cons.mpr ⟨lw_p58, List.forall_mem_cons.mpr ⟨lw_p59, List.forall_mem_cons.mpr ⟨lw_p60, List.forall_mem_cons.mpr ⟨lw_p61, List.forall_mem_cons.mpr ⟨lw_p62, List.forall_mem_cons.mpr ⟨lw_p63, fun _ h => absurd h List.not_mem_nil⟩⟩⟩⟩⟩⟩⟩⟩⟩⟩⟩⟩⟩⟩⟩⟩
theorem lw_p64 : lw_okq (⟨"ShapeToolModel", "strike", "()V"⟩, 39) := ⟨⟨by decide +kernel, by decide +kernel⟩, List.mem_of_getElem? (i := 742) (by decide +kernel), List.mem_of_getElem? (i := 1098) (by decide +kernel), List.mem_of_getElem? (i := 1099) (by decide +kernel)⟩
theorem lw_p65 : lw_okq (⟨"ShapeToolModel", "keep", "(LShapeToolModel$Tree;)V"⟩, 39) := ⟨⟨by decide +kernel, by decide +kernel⟩, List.mem_of_getElem? (i := 742) (by decide +kernel), List.mem_of_getElem? (i := 1102) (by decide +kernel), List.mem_of_getElem? (i := 1103) (by decide +kernel)⟩
def lw_privs_5 : List (MethodName × Nat) := [(⟨"ShapeToolModel", "strike", "()V"⟩, 39), (⟨"ShapeToolModel", "keep", "(LShapeToolModel$Tree;)V"⟩, 39)]
theorem lw_r5 : ∀ q ∈ lw_privs_5, lw_okq q := List.forall_mem_cons.mpr ⟨lw_p64, List.forall_mem_cons.mpr ⟨lw_p65, fun _ h => absurd h List.not_mem_nil⟩⟩
def lw_privs : List (MethodName × Nat) := lw_privs_1 ++ (lw_privs_2 ++ (lw_privs_3 ++ (lw_privs_4 ++ (lw_privs_5))))
def lw_tbl : List Cond := k2_sels lw_privs ++ tables_1
theorem lw_privs_ok : ∀ q ∈ lw_privs, lw_okq q := by
  show ∀ q ∈ lw_privs_1 ++ (lw_privs_2 ++ (lw_privs_3 ++ (lw_privs_4 ++ (lw_privs_5)))), lw_okq q
  exact List.forall_mem_append.mpr ⟨lw_r1, List.forall_mem_append.mpr ⟨lw_r2, List.forall_mem_append.mpr ⟨lw_r3, List.forall_mem_append.mpr ⟨lw_r4, lw_r5⟩⟩⟩⟩
-- ===== end of PART A; then your names; then what follows =====
end
section
/-! ===== BEGIN words of one list among another's, by their places ===== -/
theorem goodIn_r {big : List Cond} (ws : List Cond) (ps : List Nat) (hp : ws = ps.filterMap (fun i => big[i]?)) (h : ws.all goodWord = true) : GoodIn big ws := by
  intro w hw
  have h1 := List.all_eq_true.mp h w hw
  rw [hp] at hw
  obtain ⟨i, -, hi⟩ := List.mem_filterMap.mp hw
  have hm : w ∈ big := by first | exact List.mem_of_getElem? hi | exact List.getElem?_mem hi
  exact ⟨hm, good_of_word h1⟩
theorem goodIn_app {big a b : List Cond} (ha : GoodIn big a) (hb : GoodIn big b) : GoodIn big (a ++ b) := fun w h => (List.mem_append.mp h).elim (ha w) (hb w)
theorem goodIn_ca {big a b : List Cond} {c : Cond} (ha : GoodIn big (c :: a)) (hb : GoodIn big b) : GoodIn big (c :: (a ++ b)) := fun w h => (List.mem_cons.mp h).elim (fun e => ha w (List.mem_cons.mpr (Or.inl e))) (fun h => (List.mem_append.mp h).elim (fun h => ha w (List.mem_cons.mpr (Or.inr h))) (hb w))
theorem goodIn_sub {big ws : List Cond} (hm : ∀ w ∈ ws, w ∈ big) (h : ws.all goodWord = true) : GoodIn big ws := fun w hw => ⟨hm w hw, good_of_word (List.all_eq_true.mp h w hw)⟩
/-! ===== END ===== -/
end
section
def RX0 : String := "ShapeTool$Chooser"
def TX0 : u_T := fun k => match k with
  | 0 => ("ShapeTool$Chooser", "text", "LShapeTool$Tree;", true)
  | 1 => ("ShapeTool$Chooser", "finder", "LShapeTool$Finder;", true)
  | 2 => ("ShapeTool$Chooser", "chosen", "[I", true)
  | 3 => ("ShapeTool$Chooser", "many", "I", false)
  | _ => ("ShapeTool$Chooser", "within", "[I", true)
def tyX0 : Nat → FieldType := fun k => match k with
  | 0 => .object "ShapeTool$Tree"
  | 1 => .object "ShapeTool$Finder"
  | 2 => .array .int
  | 3 => .int
  | _ => .array .int
abbrev wsX00 : List Cond := u_ws RX0 TX0 5
theorem nmX0 : ∀ a, a < 5 → ∀ b, b < 5 → a ≠ b → (TX0 a).2.1 ≠ (TX0 b).2.1 := by decide +kernel
theorem tyX0_ok : ∀ k, k < 5 → parseFieldDescriptor (TX0 k).2.2.1 = some (tyX0 k) := by decide +kernel
abbrev cX0_init : ByteArray := prog_2_method_1_code
def yX0_init : MethodName := ⟨RX0, "<init>", "(LShapeTool$Tree;LShapeTool$Finder;)V"⟩
abbrev cX0_choose : ByteArray := prog_2_method_2_code
def yX0_choose : MethodName := ⟨RX0, "choose", "(I)V"⟩
abbrev cX0_countWithin : ByteArray := prog_2_method_3_code
def yX0_countWithin : MethodName := ⟨RX0, "countWithin", "()V"⟩
def RX1 : String := "ShapeTool$Finder"
def TX1 : u_T := fun k => match k with
  | 0 => ("ShapeTool$Finder", "text", "LShapeTool$Tree;", true)
  | 1 => ("ShapeTool$Finder", "pattern", "LShapeTool$Tree;", true)
  | 2 => ("ShapeTool$Finder", "nodeOf", "[I", true)
  | 3 => ("ShapeTool$Finder", "takenBy", "[I", true)
  | 4 => ("ShapeTool$Finder", "nextTerm", "[I", true)
  | 5 => ("ShapeTool$Finder", "leftTerms", "[I", true)
  | 6 => ("ShapeTool$Finder", "singles", "[I", true)
  | 7 => ("ShapeTool$Finder", "freeRow", "I", false)
  | 8 => ("ShapeTool$Finder", "deep", "I", false)
  | 9 => ("ShapeTool$Finder", "rowChoice", "I", false)
  | 10 => ("ShapeTool$Finder", "deepChoice", "I", false)
  | 11 => ("ShapeTool$Finder", "differing", "[I", true)
  | 12 => ("ShapeTool$Finder", "matched", "[I", true)
  | 13 => ("ShapeTool$Finder", "matchedCount", "I", false)
  | 14 => ("ShapeTool$Finder", "isMatched", "[Z", true)
  | _ => ("ShapeTool$Finder", "known", "Z", false)
def tyX1 : Nat → FieldType := fun k => match k with
  | 0 => .object "ShapeTool$Tree"
  | 1 => .object "ShapeTool$Tree"
  | 2 => .array .int
  | 3 => .array .int
  | 4 => .array .int
  | 5 => .array .int
  | 6 => .array .int
  | 7 => .int
  | 8 => .int
  | 9 => .int
  | 10 => .int
  | 11 => .array .int
  | 12 => .array .int
  | 13 => .int
  | 14 => .array .boolean
  | _ => .boolean
abbrev wsX10 : List Cond := u_ws RX1 TX1 16
theorem nmX1 : ∀ a, a < 16 → ∀ b, b < 16 → a ≠ b → (TX1 a).2.1 ≠ (TX1 b).2.1 := by decide +kernel
theorem tyX1_ok : ∀ k, k < 16 → parseFieldDescriptor (TX1 k).2.2.1 = some (tyX1 k) := by decide +kernel
abbrev cX1_init : ByteArray := prog_3_method_1_code
def yX1_init : MethodName := ⟨RX1, "<init>", "(LShapeTool$Tree;LShapeTool$Tree;)V"⟩
abbrev cX1_forgetMatched : ByteArray := prog_3_method_2_code
def yX1_forgetMatched : MethodName := ⟨RX1, "forgetMatched", "()V"⟩
abbrev cX1_forgetDifferences : ByteArray := prog_3_method_3_code
def yX1_forgetDifferences : MethodName := ⟨RX1, "forgetDifferences", "()V"⟩
abbrev cX1_mustDiffer : ByteArray := prog_3_method_4_code
def yX1_mustDiffer : MethodName := ⟨RX1, "mustDiffer", "(II)Z"⟩
abbrev cX1_setDiffer : ByteArray := prog_3_method_5_code
def yX1_setDiffer : MethodName := ⟨RX1, "setDiffer", "(IIZ)V"⟩
abbrev cX1_countMatched : ByteArray := prog_3_method_6_code
def yX1_countMatched : MethodName := ⟨RX1, "countMatched", "()I"⟩
abbrev cX1_matchedAt : ByteArray := prog_3_method_7_code
def yX1_matchedAt : MethodName := ⟨RX1, "matchedAt", "(I)I"⟩
abbrev cX1_firstNode : ByteArray := prog_3_method_8_code
def yX1_firstNode : MethodName := ⟨RX1, "firstNode", "(I)I"⟩
abbrev cX1_howMany : ByteArray := prog_3_method_9_code
def yX1_howMany : MethodName := ⟨RX1, "howMany", "(I)I"⟩
abbrev cX1_findAll : ByteArray := prog_3_method_10_code
def yX1_findAll : MethodName := ⟨RX1, "findAll", "()V"⟩
abbrev cX1_preparePattern : ByteArray := prog_3_method_11_code
def yX1_preparePattern : MethodName := ⟨RX1, "preparePattern", "()V"⟩
abbrev cX1_countSingles : ByteArray := prog_3_method_12_code
def yX1_countSingles : MethodName := ⟨RX1, "countSingles", "(I)I"⟩
abbrev cX1_findWay : ByteArray := prog_3_method_13_code
def yX1_findWay : MethodName := ⟨RX1, "findWay", "(I)Z"⟩
abbrev cX1_firstFailing : ByteArray := prog_3_method_14_code
def yX1_firstFailing : MethodName := ⟨RX1, "firstFailing", "(I)I"⟩
abbrev cX1_seatPiece : ByteArray := prog_3_method_15_code
def yX1_seatPiece : MethodName := ⟨RX1, "seatPiece", "(II)Z"⟩
abbrev cX1_nextNode : ByteArray := prog_3_method_16_code
def yX1_nextNode : MethodName := ⟨RX1, "nextNode", "(I)I"⟩
abbrev cX1_termFits : ByteArray := prog_3_method_17_code
def yX1_termFits : MethodName := ⟨RX1, "termFits", "(II)Z"⟩
abbrev cX1_holeFits : ByteArray := prog_3_method_18_code
def yX1_holeFits : MethodName := ⟨RX1, "holeFits", "(II)Z"⟩
abbrev cX1_rowFits : ByteArray := prog_3_method_19_code
def yX1_rowFits : MethodName := ⟨RX1, "rowFits", "(I)Z"⟩
abbrev cX1_rowsAlike : ByteArray := prog_3_method_20_code
def yX1_rowsAlike : MethodName := ⟨RX1, "rowsAlike", "(II)Z"⟩
def RX2 : String := "ShapeTool$Past"
def TX2 : u_T := fun k => match k with
  | 0 => ("ShapeTool$Past", "texts", "[[I", true)
  | 1 => ("ShapeTool$Past", "lengths", "[I", true)
  | 2 => ("ShapeTool$Past", "place", "I", false)
  | _ => ("ShapeTool$Past", "kept", "I", false)
def tyX2 : Nat → FieldType := fun k => match k with
  | 0 => .array (.array .int)
  | 1 => .array .int
  | 2 => .int
  | _ => .int
abbrev wsX20 : List Cond := u_ws RX2 TX2 4
theorem nmX2 : ∀ a, a < 4 → ∀ b, b < 4 → a ≠ b → (TX2 a).2.1 ≠ (TX2 b).2.1 := by decide +kernel
theorem tyX2_ok : ∀ k, k < 4 → parseFieldDescriptor (TX2 k).2.2.1 = some (tyX2 k) := by decide +kernel
abbrev cX2_init : ByteArray := prog_4_method_1_code
def yX2_init : MethodName := ⟨RX2, "<init>", "()V"⟩
abbrev cX2_write : ByteArray := prog_4_method_2_code
def yX2_write : MethodName := ⟨RX2, "write", "(LShapeTool$Tree;)V"⟩
abbrev cX2_keepWritten : ByteArray := prog_4_method_3_code
def yX2_keepWritten : MethodName := ⟨RX2, "keepWritten", "()V"⟩
abbrev cX2_readWritten : ByteArray := prog_4_method_4_code
def yX2_readWritten : MethodName := ⟨RX2, "readWritten", "(LShapeTool$Tree;)V"⟩
abbrev cX2_stepBack : ByteArray := prog_4_method_5_code
def yX2_stepBack : MethodName := ⟨RX2, "stepBack", "()Z"⟩
abbrev cX2_forget : ByteArray := prog_4_method_6_code
def yX2_forget : MethodName := ⟨RX2, "forget", "()V"⟩
def RX3 : String := "ShapeTool$Putter"
def TX3 : u_T := fun k => match k with
  | 0 => ("ShapeTool$Putter", "text", "LShapeTool$Tree;", true)
  | 1 => ("ShapeTool$Putter", "template", "LShapeTool$Tree;", true)
  | 2 => ("ShapeTool$Putter", "finder", "LShapeTool$Finder;", true)
  | _ => ("ShapeTool$Putter", "gone", "[Z", true)
def tyX3 : Nat → FieldType := fun k => match k with
  | 0 => .object "ShapeTool$Tree"
  | 1 => .object "ShapeTool$Tree"
  | 2 => .object "ShapeTool$Finder"
  | _ => .array .boolean
abbrev wsX30 : List Cond := u_ws RX3 TX3 4
theorem nmX3 : ∀ a, a < 4 → ∀ b, b < 4 → a ≠ b → (TX3 a).2.1 ≠ (TX3 b).2.1 := by decide +kernel
theorem tyX3_ok : ∀ k, k < 4 → parseFieldDescriptor (TX3 k).2.2.1 = some (tyX3 k) := by decide +kernel
abbrev cX3_init : ByteArray := prog_5_method_1_code
def yX3_init : MethodName := ⟨RX3, "<init>", "(LShapeTool$Tree;LShapeTool$Tree;LShapeTool$Finder;)V"⟩
abbrev cX3_build : ByteArray := prog_5_method_2_code
def yX3_build : MethodName := ⟨RX3, "build", "(LShapeTool$Tree;LShapeTool$Chooser;)Z"⟩
abbrev cX3_fillTemplate : ByteArray := prog_5_method_3_code
def yX3_fillTemplate : MethodName := ⟨RX3, "fillTemplate", "(LShapeTool$Tree;)Z"⟩
abbrev cX3_fillLetter : ByteArray := prog_5_method_4_code
def yX3_fillLetter : MethodName := ⟨RX3, "fillLetter", "(LShapeTool$Tree;I)Z"⟩
abbrev cX3_dropRowsOfNone : ByteArray := prog_5_method_5_code
def yX3_dropRowsOfNone : MethodName := ⟨RX3, "dropRowsOfNone", "()V"⟩
abbrev cX3_dropRow : ByteArray := prog_5_method_6_code
def yX3_dropRow : MethodName := ⟨RX3, "dropRow", "(I)V"⟩
abbrev cX3_pieceAhead : ByteArray := prog_5_method_7_code
def yX3_pieceAhead : MethodName := ⟨RX3, "pieceAhead", "(I)I"⟩
abbrev cX3_dropBytes : ByteArray := prog_5_method_8_code
def yX3_dropBytes : MethodName := ⟨RX3, "dropBytes", "(II)V"⟩
def RX4 : String := "ShapeTool$Reader"
def TX4 : u_T := fun k => match k with
  | 0 => ("ShapeTool$Reader", "what", "I", false)
  | 1 => ("ShapeTool$Reader", "pos", "I", false)
  | 2 => ("ShapeTool$Reader", "state", "I", false)
  | 3 => ("ShapeTool$Reader", "open", "I", false)
  | 4 => ("ShapeTool$Reader", "depth", "I", false)
  | 5 => ("ShapeTool$Reader", "rows", "I", false)
  | 6 => ("ShapeTool$Reader", "deep", "I", false)
  | _ => ("ShapeTool$Reader", "withinDeep", "Z", false)
def tyX4 : Nat → FieldType := fun k => match k with
  | 0 => .int
  | 1 => .int
  | 2 => .int
  | 3 => .int
  | 4 => .int
  | 5 => .int
  | 6 => .int
  | _ => .boolean
abbrev wsX40 : List Cond := u_ws RX4 TX4 8
theorem nmX4 : ∀ a, a < 8 → ∀ b, b < 8 → a ≠ b → (TX4 a).2.1 ≠ (TX4 b).2.1 := by decide +kernel
theorem tyX4_ok : ∀ k, k < 8 → parseFieldDescriptor (TX4 k).2.2.1 = some (tyX4 k) := by decide +kernel
abbrev cX4_init : ByteArray := prog_6_method_1_code
def yX4_init : MethodName := ⟨RX4, "<init>", "()V"⟩
abbrev cX4_readTree : ByteArray := prog_6_method_2_code
def yX4_readTree : MethodName := ⟨RX4, "readTree", "(LShapeTool$Tree;I)I"⟩
abbrev cX4_start : ByteArray := prog_6_method_3_code
def yX4_start : MethodName := ⟨RX4, "start", "(LShapeTool$Tree;I)V"⟩
abbrev cX4_skipBlanks : ByteArray := prog_6_method_4_code
def yX4_skipBlanks : MethodName := ⟨RX4, "skipBlanks", "(LShapeTool$Tree;)V"⟩
abbrev cX4_readToken : ByteArray := prog_6_method_5_code
def yX4_readToken : MethodName := ⟨RX4, "readToken", "(LShapeTool$Tree;I)Z"⟩
abbrev cX4_readPiece : ByteArray := prog_6_method_6_code
def yX4_readPiece : MethodName := ⟨RX4, "readPiece", "(LShapeTool$Tree;I)Z"⟩
abbrev cX4_rowMayStand : ByteArray := prog_6_method_7_code
def yX4_rowMayStand : MethodName := ⟨RX4, "rowMayStand", "(LShapeTool$Tree;)Z"⟩
abbrev cX4_isWithinTerm : ByteArray := prog_6_method_8_code
def yX4_isWithinTerm : MethodName := ⟨RX4, "isWithinTerm", "(LShapeTool$Tree;)Z"⟩
abbrev cX4_readAtom : ByteArray := prog_6_method_9_code
def yX4_readAtom : MethodName := ⟨RX4, "readAtom", "(LShapeTool$Tree;)Z"⟩
abbrev cX4_readLettered : ByteArray := prog_6_method_10_code
def yX4_readLettered : MethodName := ⟨RX4, "readLettered", "(LShapeTool$Tree;I)Z"⟩
abbrev cX4_readDeep : ByteArray := prog_6_method_11_code
def yX4_readDeep : MethodName := ⟨RX4, "readDeep", "(LShapeTool$Tree;)Z"⟩
abbrev cX4_addPiece : ByteArray := prog_6_method_12_code
def yX4_addPiece : MethodName := ⟨RX4, "addPiece", "(LShapeTool$Tree;II)Z"⟩
abbrev cX4_readOpening : ByteArray := prog_6_method_13_code
def yX4_readOpening : MethodName := ⟨RX4, "readOpening", "(LShapeTool$Tree;)Z"⟩
abbrev cX4_readBehindPiece : ByteArray := prog_6_method_14_code
def yX4_readBehindPiece : MethodName := ⟨RX4, "readBehindPiece", "(LShapeTool$Tree;I)Z"⟩
abbrev cX4_readClosing : ByteArray := prog_6_method_15_code
def yX4_readClosing : MethodName := ⟨RX4, "readClosing", "(LShapeTool$Tree;)Z"⟩
def RX5 : String := "ShapeTool$Tree"
def TX5 : u_T := fun k => match k with
  | 0 => ("ShapeTool$Tree", "bytes", "[I", true)
  | 1 => ("ShapeTool$Tree", "length", "I", false)
  | 2 => ("ShapeTool$Tree", "count", "I", false)
  | 3 => ("ShapeTool$Tree", "kind", "[I", true)
  | 4 => ("ShapeTool$Tree", "from", "[I", true)
  | 5 => ("ShapeTool$Tree", "atomBehind", "[I", true)
  | 6 => ("ShapeTool$Tree", "behind", "[I", true)
  | 7 => ("ShapeTool$Tree", "parent", "[I", true)
  | 8 => ("ShapeTool$Tree", "terms", "[I", true)
  | 9 => ("ShapeTool$Tree", "size", "[I", true)
  | 10 => ("ShapeTool$Tree", "letter", "[I", true)
  | 11 => ("ShapeTool$Tree", "firstOf", "[I", true)
  | _ => ("ShapeTool$Tree", "same", "[I", true)
def tyX5 : Nat → FieldType := fun k => match k with
  | 0 => .array .int
  | 1 => .int
  | 2 => .int
  | 3 => .array .int
  | 4 => .array .int
  | 5 => .array .int
  | 6 => .array .int
  | 7 => .array .int
  | 8 => .array .int
  | 9 => .array .int
  | 10 => .array .int
  | 11 => .array .int
  | _ => .array .int
abbrev wsX50 : List Cond := u_ws RX5 TX5 13
theorem nmX5 : ∀ a, a < 13 → ∀ b, b < 13 → a ≠ b → (TX5 a).2.1 ≠ (TX5 b).2.1 := by decide +kernel
theorem tyX5_ok : ∀ k, k < 13 → parseFieldDescriptor (TX5 k).2.2.1 = some (tyX5 k) := by decide +kernel
abbrev cX5_init : ByteArray := prog_7_method_1_code
def yX5_init : MethodName := ⟨RX5, "<init>", "()V"⟩
abbrev cX5_load : ByteArray := prog_7_method_2_code
def yX5_load : MethodName := ⟨RX5, "load", "([II)V"⟩
abbrev cX5_copyOf : ByteArray := prog_7_method_3_code
def yX5_copyOf : MethodName := ⟨RX5, "copyOf", "(LShapeTool$Tree;)V"⟩
abbrev cX5_append : ByteArray := prog_7_method_4_code
def yX5_append : MethodName := ⟨RX5, "append", "([III)Z"⟩
abbrev cX5_kindOf : ByteArray := prog_7_method_5_code
def yX5_kindOf : MethodName := ⟨RX5, "kindOf", "(I)I"⟩
abbrev cX5_next : ByteArray := prog_7_method_6_code
def yX5_next : MethodName := ⟨RX5, "next", "(I)I"⟩
abbrev cX5_lastByteBehind : ByteArray := prog_7_method_7_code
def yX5_lastByteBehind : MethodName := ⟨RX5, "lastByteBehind", "(II)I"⟩
abbrev cX5_markAlike : ByteArray := prog_7_method_8_code
def yX5_markAlike : MethodName := ⟨RX5, "markAlike", "()V"⟩
abbrev cX5_looksAlike : ByteArray := prog_7_method_9_code
def yX5_looksAlike : MethodName := ⟨RX5, "looksAlike", "(II)Z"⟩
abbrev cX5_sameAtom : ByteArray := prog_7_method_10_code
def yX5_sameAtom : MethodName := ⟨RX5, "sameAtom", "(LShapeTool$Tree;ILShapeTool$Tree;I)Z"⟩
def RX6 : String := "ShapeTool"
def TX6 : u_T := fun k => match k with
  | 0 => ("ShapeTool", "tape", "[I", true)
  | 1 => ("ShapeTool", "tapeLength", "I", false)
  | 2 => ("ShapeTool", "text", "LShapeTool$Tree;", true)
  | 3 => ("ShapeTool", "pattern", "LShapeTool$Tree;", true)
  | 4 => ("ShapeTool", "template", "LShapeTool$Tree;", true)
  | 5 => ("ShapeTool", "spare", "LShapeTool$Tree;", true)
  | 6 => ("ShapeTool", "reader", "LShapeTool$Reader;", true)
  | 7 => ("ShapeTool", "finder", "LShapeTool$Finder;", true)
  | 8 => ("ShapeTool", "chooser", "LShapeTool$Chooser;", true)
  | 9 => ("ShapeTool", "putter", "LShapeTool$Putter;", true)
  | _ => ("ShapeTool", "past", "LShapeTool$Past;", true)
def tyX6 : Nat → FieldType := fun k => match k with
  | 0 => .array .int
  | 1 => .int
  | 2 => .object "ShapeTool$Tree"
  | 3 => .object "ShapeTool$Tree"
  | 4 => .object "ShapeTool$Tree"
  | 5 => .object "ShapeTool$Tree"
  | 6 => .object "ShapeTool$Reader"
  | 7 => .object "ShapeTool$Finder"
  | 8 => .object "ShapeTool$Chooser"
  | 9 => .object "ShapeTool$Putter"
  | _ => .object "ShapeTool$Past"
abbrev wsX60 : List Cond := u_ws RX6 TX6 11
theorem nmX6 : ∀ a, a < 11 → ∀ b, b < 11 → a ≠ b → (TX6 a).2.1 ≠ (TX6 b).2.1 := by decide +kernel
theorem tyX6_ok : ∀ k, k < 11 → parseFieldDescriptor (TX6 k).2.2.1 = some (tyX6 k) := by decide +kernel
abbrev cX6_init : ByteArray := prog_1_method_1_code
def yX6_init : MethodName := ⟨RX6, "<init>", "()V"⟩
abbrev cX6_feed : ByteArray := prog_1_method_2_code
def yX6_feed : MethodName := ⟨RX6, "feed", "(IIIII)I"⟩
abbrev cX6_end : ByteArray := prog_1_method_3_code
def yX6_end : MethodName := ⟨RX6, "end", "(I)Z"⟩
abbrev cX6_fault : ByteArray := prog_1_method_4_code
def yX6_fault : MethodName := ⟨RX6, "fault", "(I)I"⟩
abbrev cX6_take : ByteArray := prog_1_method_5_code
def yX6_take : MethodName := ⟨RX6, "take", "(I)Z"⟩
abbrev cX6_differ : ByteArray := prog_1_method_6_code
def yX6_differ : MethodName := ⟨RX6, "differ", "(IIZ)Z"⟩
abbrev cX6_nodes : ByteArray := prog_1_method_7_code
def yX6_nodes : MethodName := ⟨RX6, "nodes", "()I"⟩
abbrev cX6_node : ByteArray := prog_1_method_8_code
def yX6_node : MethodName := ⟨RX6, "node", "(II)I"⟩
abbrev cX6_alike : ByteArray := prog_1_method_9_code
def yX6_alike : MethodName := ⟨RX6, "alike", "(II)Z"⟩
abbrev cX6_matches : ByteArray := prog_1_method_10_code
def yX6_matches : MethodName := ⟨RX6, "matches", "()I"⟩
abbrev cX6_match : ByteArray := prog_1_method_11_code
def yX6_match : MethodName := ⟨RX6, "match", "(I)I"⟩
abbrev cX6_hole : ByteArray := prog_1_method_12_code
def yX6_hole : MethodName := ⟨RX6, "hole", "(II)I"⟩
abbrev cX6_row : ByteArray := prog_1_method_13_code
def yX6_row : MethodName := ⟨RX6, "row", "(II)I"⟩
abbrev cX6_taken : ByteArray := prog_1_method_14_code
def yX6_taken : MethodName := ⟨RX6, "taken", "(I)I"⟩
abbrev cX6_takes : ByteArray := prog_1_method_15_code
def yX6_takes : MethodName := ⟨RX6, "takes", "(II)I"⟩
abbrev cX6_put : ByteArray := prog_1_method_16_code
def yX6_put : MethodName := ⟨RX6, "put", "(I)I"⟩
abbrev cX6_putAll : ByteArray := prog_1_method_17_code
def yX6_putAll : MethodName := ⟨RX6, "putAll", "(I)I"⟩
abbrev cX6_back : ByteArray := prog_1_method_18_code
def yX6_back : MethodName := ⟨RX6, "back", "()Z"⟩
abbrev cX6_at : ByteArray := prog_1_method_19_code
def yX6_at : MethodName := ⟨RX6, "at", "(I)I"⟩
abbrev cX6_count : ByteArray := prog_1_method_20_code
def yX6_count : MethodName := ⟨RX6, "count", "(I)I"⟩
abbrev cX6_writeFed : ByteArray := prog_1_method_21_code
def yX6_writeFed : MethodName := ⟨RX6, "writeFed", "(II)I"⟩
abbrev cX6_readTape : ByteArray := prog_1_method_22_code
def yX6_readTape : MethodName := ⟨RX6, "readTape", "(I)I"⟩
abbrev cX6_adoptSpare : ByteArray := prog_1_method_23_code
def yX6_adoptSpare : MethodName := ⟨RX6, "adoptSpare", "(I)V"⟩
abbrev cX6_restoreWritten : ByteArray := prog_1_method_24_code
def yX6_restoreWritten : MethodName := ⟨RX6, "restoreWritten", "()V"⟩
abbrev cX6_putOnce : ByteArray := prog_1_method_25_code
def yX6_putOnce : MethodName := ⟨RX6, "putOnce", "(I)I"⟩
abbrev cX6_mayPut : ByteArray := prog_1_method_26_code
def yX6_mayPut : MethodName := ⟨RX6, "mayPut", "(I)Z"⟩
abbrev cX6_isBound : ByteArray := prog_1_method_27_code
def yX6_isBound : MethodName := ⟨RX6, "isBound", "(II)Z"⟩
abbrev cX6_isNode : ByteArray := prog_1_method_28_code
def yX6_isNode : MethodName := ⟨RX6, "isNode", "(I)Z"⟩
abbrev cX6_isLetter : ByteArray := prog_1_method_29_code
def yX6_isLetter : MethodName := ⟨RX6, "isLetter", "(I)Z"⟩
abbrev cX6_isRule : ByteArray := prog_1_method_30_code
def yX6_isRule : MethodName := ⟨RX6, "isRule", "(I)Z"⟩
abbrev cX6_isSmall : ByteArray := prog_1_method_31_code
def yX6_isSmall : MethodName := ⟨RX6, "isSmall", "(I)Z"⟩
abbrev cX6_isAtomByte : ByteArray := prog_1_method_32_code
def yX6_isAtomByte : MethodName := ⟨RX6, "isAtomByte", "(I)Z"⟩
abbrev cX6_isBlank : ByteArray := prog_1_method_33_code
def yX6_isBlank : MethodName := ⟨RX6, "isBlank", "(I)Z"⟩
def RX7 : String := "ShapeToolModel$Tree"
def TX7 : u_T := fun k => match k with
  | 0 => ("ShapeToolModel$Tree", "bytes", "[B", true)
  | 1 => ("ShapeToolModel$Tree", "length", "I", false)
  | 2 => ("ShapeToolModel$Tree", "many", "I", false)
  | 3 => ("ShapeToolModel$Tree", "kind", "[I", true)
  | 4 => ("ShapeToolModel$Tree", "first", "[I", true)
  | 5 => ("ShapeToolModel$Tree", "behind", "[I", true)
  | 6 => ("ShapeToolModel$Tree", "atomEnd", "[I", true)
  | 7 => ("ShapeToolModel$Tree", "terms", "[I", true)
  | 8 => ("ShapeToolModel$Tree", "in", "[I", true)
  | 9 => ("ShapeToolModel$Tree", "letter", "[I", true)
  | _ => ("ShapeToolModel$Tree", "open", "[Z", true)
def tyX7 : Nat → FieldType := fun k => match k with
  | 0 => .array .byte
  | 1 => .int
  | 2 => .int
  | 3 => .array .int
  | 4 => .array .int
  | 5 => .array .int
  | 6 => .array .int
  | 7 => .array .int
  | 8 => .array .int
  | 9 => .array .int
  | _ => .array .boolean
abbrev wsX70 : List Cond := u_ws RX7 TX7 11
theorem nmX7 : ∀ a, a < 11 → ∀ b, b < 11 → a ≠ b → (TX7 a).2.1 ≠ (TX7 b).2.1 := by decide +kernel
theorem tyX7_ok : ∀ k, k < 11 → parseFieldDescriptor (TX7 k).2.2.1 = some (tyX7 k) := by decide +kernel
abbrev cX7_init : ByteArray := prog_10_method_1_code
def yX7_init : MethodName := ⟨RX7, "<init>", "()V"⟩
abbrev cX7_term : ByteArray := prog_10_method_2_code
def yX7_term : MethodName := ⟨RX7, "term", "(II)I"⟩
def RX8 : String := "ShapeToolModel"
def TX8 : u_T := fun k => match k with
  | 0 => ("ShapeToolModel", "thrown", "I", false)
  | 1 => ("ShapeToolModel", "tape", "[B", true)
  | 2 => ("ShapeToolModel", "length", "I", false)
  | 3 => ("ShapeToolModel", "text", "LShapeToolModel$Tree;", true)
  | 4 => ("ShapeToolModel", "pattern", "LShapeToolModel$Tree;", true)
  | 5 => ("ShapeToolModel", "template", "LShapeToolModel$Tree;", true)
  | 6 => ("ShapeToolModel", "trial", "LShapeToolModel$Tree;", true)
  | 7 => ("ShapeToolModel", "before", "LShapeToolModel$Tree;", true)
  | 8 => ("ShapeToolModel", "history", "[B", true)
  | 9 => ("ShapeToolModel", "historyLong", "[I", true)
  | 10 => ("ShapeToolModel", "kept", "I", false)
  | 11 => ("ShapeToolModel", "differs", "[Z", true)
  | 12 => ("ShapeToolModel", "tree", "LShapeToolModel$Tree;", false)
  | 13 => ("ShapeToolModel", "sort", "I", false)
  | 14 => ("ShapeToolModel", "at", "I", false)
  | 15 => ("ShapeToolModel", "fault", "I", false)
  | 16 => ("ShapeToolModel", "depth", "I", false)
  | 17 => ("ShapeToolModel", "rows", "I", false)
  | 18 => ("ShapeToolModel", "deeps", "I", false)
  | 19 => ("ShapeToolModel", "isDeep", "Z", false)
  | 20 => ("ShapeToolModel", "letterKind", "[I", true)
  | 21 => ("ShapeToolModel", "taskPiece", "[I", true)
  | 22 => ("ShapeToolModel", "taskFrom", "[I", true)
  | 23 => ("ShapeToolModel", "taskNode", "[I", true)
  | 24 => ("ShapeToolModel", "taskAt", "[I", true)
  | 25 => ("ShapeToolModel", "taskNext", "[I", true)
  | 26 => ("ShapeToolModel", "tasks", "I", false)
  | 27 => ("ShapeToolModel", "holes", "[I", true)
  | 28 => ("ShapeToolModel", "rowFirst", "[I", true)
  | 29 => ("ShapeToolModel", "rowMany", "[I", true)
  | 30 => ("ShapeToolModel", "rowIn", "[I", true)
  | 31 => ("ShapeToolModel", "rowAt", "[I", true)
  | 32 => ("ShapeToolModel", "matched", "[Z", true)
  | 33 => ("ShapeToolModel", "isTaken", "[Z", true)
  | 34 => ("ShapeToolModel", "most", "[I", true)
  | 35 => ("ShapeToolModel", "made", "[B", true)
  | 36 => ("ShapeToolModel", "madeLong", "I", false)
  | 37 => ("ShapeToolModel", "struck", "[Z", true)
  | _ => ("ShapeToolModel", "goneTerm", "[Z", true)
def tyX8 : Nat → FieldType := fun k => match k with
  | 0 => .int
  | 1 => .array .byte
  | 2 => .int
  | 3 => .object "ShapeToolModel$Tree"
  | 4 => .object "ShapeToolModel$Tree"
  | 5 => .object "ShapeToolModel$Tree"
  | 6 => .object "ShapeToolModel$Tree"
  | 7 => .object "ShapeToolModel$Tree"
  | 8 => .array .byte
  | 9 => .array .int
  | 10 => .int
  | 11 => .array .boolean
  | 12 => .object "ShapeToolModel$Tree"
  | 13 => .int
  | 14 => .int
  | 15 => .int
  | 16 => .int
  | 17 => .int
  | 18 => .int
  | 19 => .boolean
  | 20 => .array .int
  | 21 => .array .int
  | 22 => .array .int
  | 23 => .array .int
  | 24 => .array .int
  | 25 => .array .int
  | 26 => .int
  | 27 => .array .int
  | 28 => .array .int
  | 29 => .array .int
  | 30 => .array .int
  | 31 => .array .int
  | 32 => .array .boolean
  | 33 => .array .boolean
  | 34 => .array .int
  | 35 => .array .byte
  | 36 => .int
  | 37 => .array .boolean
  | _ => .array .boolean
abbrev wsX80 : List Cond := u_ws RX8 TX8 39
theorem nmX8 : ∀ a, a < 39 → ∀ b, b < 39 → a ≠ b → (TX8 a).2.1 ≠ (TX8 b).2.1 := by decide +kernel
theorem tyX8_ok : ∀ k, k < 39 → parseFieldDescriptor (TX8 k).2.2.1 = some (tyX8 k) := by decide +kernel
abbrev cX8_init : ByteArray := prog_9_method_1_code
def yX8_init : MethodName := ⟨RX8, "<init>", "()V"⟩
abbrev cX8_thrown : ByteArray := prog_9_method_2_code
def yX8_thrown : MethodName := ⟨RX8, "thrown", "()I"⟩
abbrev cX8_isIn : ByteArray := prog_9_method_3_code
def yX8_isIn : MethodName := ⟨RX8, "isIn", "(III)Z"⟩
abbrev cX8_look : ByteArray := prog_9_method_4_code
def yX8_look : MethodName := ⟨RX8, "look", "()I"⟩
abbrev cX8_isSmall : ByteArray := prog_9_method_5_code
def yX8_isSmall : MethodName := ⟨RX8, "isSmall", "(I)Z"⟩
abbrev cX8_isAtom : ByteArray := prog_9_method_6_code
def yX8_isAtom : MethodName := ⟨RX8, "isAtom", "(I)Z"⟩
abbrev cX8_wrong : ByteArray := prog_9_method_7_code
def yX8_wrong : MethodName := ⟨RX8, "wrong", "()Z"⟩
abbrev cX8_adds : ByteArray := prog_9_method_8_code
def yX8_adds : MethodName := ⟨RX8, "adds", "(II)I"⟩
abbrev cX8_opens : ByteArray := prog_9_method_9_code
def yX8_opens : MethodName := ⟨RX8, "opens", "()Z"⟩
abbrev cX8_lettered : ByteArray := prog_9_method_10_code
def yX8_lettered : MethodName := ⟨RX8, "lettered", "(II)Z"⟩
abbrev cX8_piece : ByteArray := prog_9_method_11_code
def yX8_piece : MethodName := ⟨RX8, "piece", "(IZ)Z"⟩
abbrev cX8_term : ByteArray := prog_9_method_12_code
def yX8_term : MethodName := ⟨RX8, "term", "(I)Z"⟩
abbrev cX8_read : ByteArray := prog_9_method_13_code
def yX8_read : MethodName := ⟨RX8, "read", "(LShapeToolModel$Tree;[BIII)I"⟩
abbrev cX8_bytesIn : ByteArray := prog_9_method_14_code
def yX8_bytesIn : MethodName := ⟨RX8, "bytesIn", "(I)I"⟩
abbrev cX8_put4 : ByteArray := prog_9_method_15_code
def yX8_put4 : MethodName := ⟨RX8, "put4", "(I)V"⟩
abbrev cX8_feed : ByteArray := prog_9_method_16_code
def yX8_feed : MethodName := ⟨RX8, "feed", "(IIIII)I"⟩
abbrev cX8_end : ByteArray := prog_9_method_17_code
def yX8_end : MethodName := ⟨RX8, "end", "(I)Z"⟩
abbrev cX8_fault : ByteArray := prog_9_method_18_code
def yX8_fault : MethodName := ⟨RX8, "fault", "(I)I"⟩
abbrev cX8_take : ByteArray := prog_9_method_19_code
def yX8_take : MethodName := ⟨RX8, "take", "(I)Z"⟩
abbrev cX8_differ : ByteArray := prog_9_method_20_code
def yX8_differ : MethodName := ⟨RX8, "differ", "(IIZ)Z"⟩
abbrev cX8_isNode : ByteArray := prog_9_method_21_code
def yX8_isNode : MethodName := ⟨RX8, "isNode", "(I)Z"⟩
abbrev cX8_nodes : ByteArray := prog_9_method_22_code
def yX8_nodes : MethodName := ⟨RX8, "nodes", "()I"⟩
abbrev cX8_isAtomAlike : ByteArray := prog_9_method_23_code
def yX8_isAtomAlike : MethodName := ⟨RX8, "isAtomAlike", "(LShapeToolModel$Tree;ILShapeToolModel$Tree;I)Z"⟩
abbrev cX8_areAlike : ByteArray := prog_9_method_24_code
def yX8_areAlike : MethodName := ⟨RX8, "areAlike", "(II)Z"⟩
abbrev cX8_alike : ByteArray := prog_9_method_25_code
def yX8_alike : MethodName := ⟨RX8, "alike", "(II)Z"⟩
abbrev cX8_isWithin : ByteArray := prog_9_method_26_code
def yX8_isWithin : MethodName := ⟨RX8, "isWithin", "(II)Z"⟩
abbrev cX8_task : ByteArray := prog_9_method_27_code
def yX8_task : MethodName := ⟨RX8, "task", "(IIIII)I"⟩
abbrev cX8_differAll : ByteArray := prog_9_method_28_code
def yX8_differAll : MethodName := ⟨RX8, "differAll", "()Z"⟩
abbrev cX8_does : ByteArray := prog_9_method_29_code
def yX8_does : MethodName := ⟨RX8, "does", "(I)Z"⟩
abbrev cX8_whole : ByteArray := prog_9_method_30_code
def yX8_whole : MethodName := ⟨RX8, "whole", "(III)Z"⟩
abbrev cX8_isRowAlike : ByteArray := prog_9_method_31_code
def yX8_isRowAlike : MethodName := ⟨RX8, "isRowAlike", "(IIII)Z"⟩
abbrev cX8_some : ByteArray := prog_9_method_32_code
def yX8_some : MethodName := ⟨RX8, "some", "(I)Z"⟩
abbrev cX8_isMatched : ByteArray := prog_9_method_33_code
def yX8_isMatched : MethodName := ⟨RX8, "isMatched", "(I)Z"⟩
abbrev cX8_all : ByteArray := prog_9_method_34_code
def yX8_all : MethodName := ⟨RX8, "all", "()I"⟩
abbrev cX8_matches : ByteArray := prog_9_method_35_code
def yX8_matches : MethodName := ⟨RX8, "matches", "()I"⟩
abbrev cX8_match : ByteArray := prog_9_method_36_code
def yX8_match : MethodName := ⟨RX8, "match", "(I)I"⟩
abbrev cX8_kindOf : ByteArray := prog_9_method_37_code
def yX8_kindOf : MethodName := ⟨RX8, "kindOf", "(LShapeToolModel$Tree;I)I"⟩
abbrev cX8_hole : ByteArray := prog_9_method_38_code
def yX8_hole : MethodName := ⟨RX8, "hole", "(II)I"⟩
abbrev cX8_row : ByteArray := prog_9_method_39_code
def yX8_row : MethodName := ⟨RX8, "row", "(II)I"⟩
abbrev cX8_takeBy : ByteArray := prog_9_method_40_code
def yX8_takeBy : MethodName := ⟨RX8, "takeBy", "(I)I"⟩
abbrev cX8_taken : ByteArray := prog_9_method_41_code
def yX8_taken : MethodName := ⟨RX8, "taken", "(I)I"⟩
abbrev cX8_takes : ByteArray := prog_9_method_42_code
def yX8_takes : MethodName := ⟨RX8, "takes", "(II)I"⟩
abbrev cX8_copy : ByteArray := prog_9_method_43_code
def yX8_copy : MethodName := ⟨RX8, "copy", "(LShapeToolModel$Tree;II)V"⟩
abbrev cX8_strike : ByteArray := prog_9_method_44_code
def yX8_strike : MethodName := ⟨RX8, "strike", "()V"⟩
abbrev cX8_write : ByteArray := prog_9_method_45_code
def yX8_write : MethodName := ⟨RX8, "write", "()V"⟩
abbrev cX8_puts : ByteArray := prog_9_method_46_code
def yX8_puts : MethodName := ⟨RX8, "puts", "(I)I"⟩
abbrev cX8_keep : ByteArray := prog_9_method_47_code
def yX8_keep : MethodName := ⟨RX8, "keep", "(LShapeToolModel$Tree;)V"⟩
abbrev cX8_put : ByteArray := prog_9_method_48_code
def yX8_put : MethodName := ⟨RX8, "put", "(I)I"⟩
abbrev cX8_putAll : ByteArray := prog_9_method_49_code
def yX8_putAll : MethodName := ⟨RX8, "putAll", "(I)I"⟩
abbrev cX8_back : ByteArray := prog_9_method_50_code
def yX8_back : MethodName := ⟨RX8, "back", "()Z"⟩
abbrev cX8_node : ByteArray := prog_9_method_51_code
def yX8_node : MethodName := ⟨RX8, "node", "(II)I"⟩
abbrev cX8_at : ByteArray := prog_9_method_52_code
def yX8_at : MethodName := ⟨RX8, "at", "(I)I"⟩
abbrev cX8_count : ByteArray := prog_9_method_53_code
def yX8_count : MethodName := ⟨RX8, "count", "(I)I"⟩
def RL : String := "ShapeToolLaw"
abbrev cL_at : ByteArray := method_3_code
def yL_at : MethodName := ⟨RL, "at", "(LShapeTool;I[J)I"⟩
abbrev cL_law : ByteArray := code
def yL_law : MethodName := ⟨RL, "law", "([I)Z"⟩
abbrev vwCl : List vw_C := [(RX0, TX0, 5), (RX1, TX1, 16), (RX2, TX2, 4), (RX3, TX3, 4), (RX4, TX4, 8), (RX5, TX5, 13), (RX6, TX6, 11), (RX7, TX7, 11), (RX8, TX8, 39)]
end
section
theorem dX0_init_0 : decode cX0_init 0 = .ok (.aload_n 0, 1) := by decide +kernel
theorem dX0_init_1 : decode cX0_init 1 = .ok (.invokespecial 3, 3) := by decide +kernel
theorem dX0_init_4 : decode cX0_init 4 = .ok (.aload_n 0, 1) := by decide +kernel
theorem dX0_init_5 : decode cX0_init 5 = .ok (.bipush 120, 2) := by decide +kernel
theorem dX0_init_7 : decode cX0_init 7 = .ok (.newarray .int, 2) := by decide +kernel
theorem dX0_init_9 : decode cX0_init 9 = .ok (.putfield 9, 3) := by decide +kernel
theorem dX0_init_12 : decode cX0_init 12 = .ok (.aload_n 0, 1) := by decide +kernel
theorem dX0_init_13 : decode cX0_init 13 = .ok (.bipush 120, 2) := by decide +kernel
theorem dX0_init_15 : decode cX0_init 15 = .ok (.newarray .int, 2) := by decide +kernel
theorem dX0_init_17 : decode cX0_init 17 = .ok (.putfield 15, 3) := by decide +kernel
theorem dX0_init_20 : decode cX0_init 20 = .ok (.aload_n 0, 1) := by decide +kernel
theorem dX0_init_21 : decode cX0_init 21 = .ok (.aload_n 1, 1) := by decide +kernel
theorem dX0_init_22 : decode cX0_init 22 = .ok (.putfield 18, 3) := by decide +kernel
theorem dX0_init_25 : decode cX0_init 25 = .ok (.aload_n 0, 1) := by decide +kernel
theorem dX0_init_26 : decode cX0_init 26 = .ok (.aload_n 2, 1) := by decide +kernel
theorem dX0_init_27 : decode cX0_init 27 = .ok (.putfield 22, 3) := by decide +kernel
theorem dX0_init_30 : decode cX0_init 30 = .ok (.return_, 1) := by decide +kernel
theorem dX0_choose_0 : decode cX0_choose 0 = .ok (.aload_n 0, 1) := by decide +kernel
theorem dX0_choose_1 : decode cX0_choose 1 = .ok (.invokevirtual 26, 3) := by decide +kernel
theorem dX0_choose_4 : decode cX0_choose 4 = .ok (.iload_n 1, 1) := by decide +kernel
theorem dX0_choose_5 : decode cX0_choose 5 = .ok (.ifCond .ne 8, 3) := by decide +kernel
theorem dX0_choose_8 : decode cX0_choose 8 = .ok (.bipush 120, 2) := by decide +kernel
theorem dX0_choose_10 : decode cX0_choose 10 = .ok (.goto 13, 3) := by decide +kernel
theorem dX0_choose_13 : decode cX0_choose 13 = .ok (.iload_n 1, 1) := by decide +kernel
theorem dX0_choose_14 : decode cX0_choose 14 = .ok (.iconst 1, 1) := by decide +kernel
theorem dX0_choose_15 : decode cX0_choose 15 = .ok (.if_icmp .ne 7, 3) := by decide +kernel
theorem dX0_choose_18 : decode cX0_choose 18 = .ok (.iconst 0, 1) := by decide +kernel
theorem dX0_choose_19 : decode cX0_choose 19 = .ok (.goto 4, 3) := by decide +kernel
theorem dX0_choose_22 : decode cX0_choose 22 = .ok (.iconst 1, 1) := by decide +kernel
theorem dX0_choose_23 : decode cX0_choose 23 = .ok (.istore_n 2, 1) := by decide +kernel
theorem dX0_choose_24 : decode cX0_choose 24 = .ok (.iconst 0, 1) := by decide +kernel
theorem dX0_choose_25 : decode cX0_choose 25 = .ok (.istore_n 3, 1) := by decide +kernel
theorem dX0_choose_26 : decode cX0_choose 26 = .ok (.aload_n 0, 1) := by decide +kernel
theorem dX0_choose_27 : decode cX0_choose 27 = .ok (.iconst 0, 1) := by decide +kernel
theorem dX0_choose_28 : decode cX0_choose 28 = .ok (.putfield 29, 3) := by decide +kernel
theorem dX0_choose_31 : decode cX0_choose 31 = .ok (.iconst 0, 1) := by decide +kernel
theorem dX0_choose_32 : decode cX0_choose 32 = .ok (.istore 4, 2) := by decide +kernel
theorem dX0_choose_34 : decode cX0_choose 34 = .ok (.iload 4, 2) := by decide +kernel
theorem dX0_choose_36 : decode cX0_choose 36 = .ok (.aload_n 0, 1) := by decide +kernel
theorem dX0_choose_37 : decode cX0_choose 37 = .ok (.getfield 18, 3) := by decide +kernel
theorem dX0_choose_40 : decode cX0_choose 40 = .ok (.getfield 33, 3) := by decide +kernel
theorem dX0_choose_43 : decode cX0_choose 43 = .ok (.if_icmp .ge 70, 3) := by decide +kernel
theorem dX0_choose_46 : decode cX0_choose 46 = .ok (.iload 4, 2) := by decide +kernel
theorem dX0_choose_48 : decode cX0_choose 48 = .ok (.iload_n 3, 1) := by decide +kernel
theorem dX0_choose_49 : decode cX0_choose 49 = .ok (.if_icmp .lt 58, 3) := by decide +kernel
theorem dX0_choose_52 : decode cX0_choose 52 = .ok (.aload_n 0, 1) := by decide +kernel
theorem dX0_choose_53 : decode cX0_choose 53 = .ok (.getfield 22, 3) := by decide +kernel
theorem dX0_choose_56 : decode cX0_choose 56 = .ok (.getfield 38, 3) := by decide +kernel
theorem dX0_choose_59 : decode cX0_choose 59 = .ok (.iload 4, 2) := by decide +kernel
theorem dX0_choose_61 : decode cX0_choose 61 = .ok (.baload, 1) := by decide +kernel
theorem dX0_choose_62 : decode cX0_choose 62 = .ok (.ifCond .eq 45, 3) := by decide +kernel
theorem dX0_choose_65 : decode cX0_choose 65 = .ok (.aload_n 0, 1) := by decide +kernel
theorem dX0_choose_66 : decode cX0_choose 66 = .ok (.getfield 15, 3) := by decide +kernel
theorem dX0_choose_69 : decode cX0_choose 69 = .ok (.iload 4, 2) := by decide +kernel
theorem dX0_choose_71 : decode cX0_choose 71 = .ok (.iaload, 1) := by decide +kernel
theorem dX0_choose_72 : decode cX0_choose 72 = .ok (.iload_n 2, 1) := by decide +kernel
theorem dX0_choose_73 : decode cX0_choose 73 = .ok (.if_icmp .gt 34, 3) := by decide +kernel
theorem dX0_choose_76 : decode cX0_choose 76 = .ok (.aload_n 0, 1) := by decide +kernel
theorem dX0_choose_77 : decode cX0_choose 77 = .ok (.getfield 9, 3) := by decide +kernel
theorem dX0_choose_80 : decode cX0_choose 80 = .ok (.aload_n 0, 1) := by decide +kernel
theorem dX0_choose_81 : decode cX0_choose 81 = .ok (.getfield 29, 3) := by decide +kernel
theorem dX0_choose_84 : decode cX0_choose 84 = .ok (.iload 4, 2) := by decide +kernel
theorem dX0_choose_86 : decode cX0_choose 86 = .ok (.iastore, 1) := by decide +kernel
theorem dX0_choose_87 : decode cX0_choose 87 = .ok (.aload_n 0, 1) := by decide +kernel
theorem dX0_choose_88 : decode cX0_choose 88 = .ok (.dup, 1) := by decide +kernel
theorem dX0_choose_89 : decode cX0_choose 89 = .ok (.getfield 29, 3) := by decide +kernel
theorem dX0_choose_92 : decode cX0_choose 92 = .ok (.iconst 1, 1) := by decide +kernel
theorem dX0_choose_93 : decode cX0_choose 93 = .ok (.iadd, 1) := by decide +kernel
theorem dX0_choose_94 : decode cX0_choose 94 = .ok (.putfield 29, 3) := by decide +kernel
theorem dX0_choose_97 : decode cX0_choose 97 = .ok (.aload_n 0, 1) := by decide +kernel
theorem dX0_choose_98 : decode cX0_choose 98 = .ok (.getfield 18, 3) := by decide +kernel
theorem dX0_choose_101 : decode cX0_choose 101 = .ok (.iload 4, 2) := by decide +kernel
theorem dX0_choose_103 : decode cX0_choose 103 = .ok (.invokevirtual 44, 3) := by decide +kernel
theorem dX0_choose_106 : decode cX0_choose 106 = .ok (.istore_n 3, 1) := by decide +kernel
theorem dX0_choose_107 : decode cX0_choose 107 = .ok (.iinc 4 1, 3) := by decide +kernel
theorem dX0_choose_110 : decode cX0_choose 110 = .ok (.goto (-76), 3) := by decide +kernel
theorem dX0_choose_113 : decode cX0_choose 113 = .ok (.return_, 1) := by decide +kernel
theorem dX0_countWithin_0 : decode cX0_countWithin 0 = .ok (.iconst 0, 1) := by decide +kernel
theorem dX0_countWithin_1 : decode cX0_countWithin 1 = .ok (.istore_n 1, 1) := by decide +kernel
theorem dX0_countWithin_2 : decode cX0_countWithin 2 = .ok (.iload_n 1, 1) := by decide +kernel
theorem dX0_countWithin_3 : decode cX0_countWithin 3 = .ok (.aload_n 0, 1) := by decide +kernel
theorem dX0_countWithin_4 : decode cX0_countWithin 4 = .ok (.getfield 18, 3) := by decide +kernel
theorem dX0_countWithin_7 : decode cX0_countWithin 7 = .ok (.getfield 33, 3) := by decide +kernel
theorem dX0_countWithin_10 : decode cX0_countWithin 10 = .ok (.if_icmp .ge 16, 3) := by decide +kernel
theorem dX0_countWithin_13 : decode cX0_countWithin 13 = .ok (.aload_n 0, 1) := by decide +kernel
theorem dX0_countWithin_14 : decode cX0_countWithin 14 = .ok (.getfield 15, 3) := by decide +kernel
theorem dX0_countWithin_17 : decode cX0_countWithin 17 = .ok (.iload_n 1, 1) := by decide +kernel
theorem dX0_countWithin_18 : decode cX0_countWithin 18 = .ok (.iconst 0, 1) := by decide +kernel
theorem dX0_countWithin_19 : decode cX0_countWithin 19 = .ok (.iastore, 1) := by decide +kernel
theorem dX0_countWithin_20 : decode cX0_countWithin 20 = .ok (.iinc 1 1, 3) := by decide +kernel
theorem dX0_countWithin_23 : decode cX0_countWithin 23 = .ok (.goto (-21), 3) := by decide +kernel
theorem dX0_countWithin_26 : decode cX0_countWithin 26 = .ok (.aload_n 0, 1) := by decide +kernel
theorem dX0_countWithin_27 : decode cX0_countWithin 27 = .ok (.getfield 18, 3) := by decide +kernel
theorem dX0_countWithin_30 : decode cX0_countWithin 30 = .ok (.getfield 33, 3) := by decide +kernel
theorem dX0_countWithin_33 : decode cX0_countWithin 33 = .ok (.iconst 1, 1) := by decide +kernel
theorem dX0_countWithin_34 : decode cX0_countWithin 34 = .ok (.isub, 1) := by decide +kernel
theorem dX0_countWithin_35 : decode cX0_countWithin 35 = .ok (.istore_n 1, 1) := by decide +kernel
theorem dX0_countWithin_36 : decode cX0_countWithin 36 = .ok (.iload_n 1, 1) := by decide +kernel
theorem dX0_countWithin_37 : decode cX0_countWithin 37 = .ok (.ifCond .le 63, 3) := by decide +kernel
theorem dX0_countWithin_40 : decode cX0_countWithin 40 = .ok (.aload_n 0, 1) := by decide +kernel
theorem dX0_countWithin_41 : decode cX0_countWithin 41 = .ok (.getfield 18, 3) := by decide +kernel
theorem dX0_countWithin_44 : decode cX0_countWithin 44 = .ok (.getfield 48, 3) := by decide +kernel
theorem dX0_countWithin_47 : decode cX0_countWithin 47 = .ok (.iload_n 1, 1) := by decide +kernel
theorem dX0_countWithin_48 : decode cX0_countWithin 48 = .ok (.iaload, 1) := by decide +kernel
theorem dX0_countWithin_49 : decode cX0_countWithin 49 = .ok (.istore_n 2, 1) := by decide +kernel
theorem dX0_countWithin_50 : decode cX0_countWithin 50 = .ok (.iload_n 2, 1) := by decide +kernel
theorem dX0_countWithin_51 : decode cX0_countWithin 51 = .ok (.ifCond .lt 43, 3) := by decide +kernel
theorem dX0_countWithin_54 : decode cX0_countWithin 54 = .ok (.aload_n 0, 1) := by decide +kernel
theorem dX0_countWithin_55 : decode cX0_countWithin 55 = .ok (.getfield 15, 3) := by decide +kernel
theorem dX0_countWithin_58 : decode cX0_countWithin 58 = .ok (.iload_n 2, 1) := by decide +kernel
theorem dX0_countWithin_59 : decode cX0_countWithin 59 = .ok (.dup2, 1) := by decide +kernel
theorem dX0_countWithin_60 : decode cX0_countWithin 60 = .ok (.iaload, 1) := by decide +kernel
theorem dX0_countWithin_61 : decode cX0_countWithin 61 = .ok (.aload_n 0, 1) := by decide +kernel
theorem dX0_countWithin_62 : decode cX0_countWithin 62 = .ok (.getfield 22, 3) := by decide +kernel
theorem dX0_countWithin_65 : decode cX0_countWithin 65 = .ok (.getfield 38, 3) := by decide +kernel
theorem dX0_countWithin_68 : decode cX0_countWithin 68 = .ok (.iload_n 1, 1) := by decide +kernel
theorem dX0_countWithin_69 : decode cX0_countWithin 69 = .ok (.baload, 1) := by decide +kernel
theorem dX0_countWithin_70 : decode cX0_countWithin 70 = .ok (.ifCond .eq 16, 3) := by decide +kernel
theorem dX0_countWithin_73 : decode cX0_countWithin 73 = .ok (.aload_n 0, 1) := by decide +kernel
theorem dX0_countWithin_74 : decode cX0_countWithin 74 = .ok (.getfield 15, 3) := by decide +kernel
theorem dX0_countWithin_77 : decode cX0_countWithin 77 = .ok (.iload_n 1, 1) := by decide +kernel
theorem dX0_countWithin_78 : decode cX0_countWithin 78 = .ok (.iaload, 1) := by decide +kernel
theorem dX0_countWithin_79 : decode cX0_countWithin 79 = .ok (.ifCond .ne 7, 3) := by decide +kernel
theorem dX0_countWithin_82 : decode cX0_countWithin 82 = .ok (.iconst 1, 1) := by decide +kernel
theorem dX0_countWithin_83 : decode cX0_countWithin 83 = .ok (.goto 9, 3) := by decide +kernel
theorem dX0_countWithin_86 : decode cX0_countWithin 86 = .ok (.aload_n 0, 1) := by decide +kernel
theorem dX0_countWithin_87 : decode cX0_countWithin 87 = .ok (.getfield 15, 3) := by decide +kernel
theorem dX0_countWithin_90 : decode cX0_countWithin 90 = .ok (.iload_n 1, 1) := by decide +kernel
theorem dX0_countWithin_91 : decode cX0_countWithin 91 = .ok (.iaload, 1) := by decide +kernel
theorem dX0_countWithin_92 : decode cX0_countWithin 92 = .ok (.iadd, 1) := by decide +kernel
theorem dX0_countWithin_93 : decode cX0_countWithin 93 = .ok (.iastore, 1) := by decide +kernel
theorem dX0_countWithin_94 : decode cX0_countWithin 94 = .ok (.iinc 1 (-1), 3) := by decide +kernel
theorem dX0_countWithin_97 : decode cX0_countWithin 97 = .ok (.goto (-61), 3) := by decide +kernel
theorem dX0_countWithin_100 : decode cX0_countWithin 100 = .ok (.return_, 1) := by decide +kernel
theorem dX1_init_0 : decode cX1_init 0 = .ok (.aload_n 0, 1) := by decide +kernel
theorem dX1_init_1 : decode cX1_init 1 = .ok (.invokespecial 3, 3) := by decide +kernel
theorem dX1_init_4 : decode cX1_init 4 = .ok (.aload_n 0, 1) := by decide +kernel
theorem dX1_init_5 : decode cX1_init 5 = .ok (.bipush 120, 2) := by decide +kernel
theorem dX1_init_7 : decode cX1_init 7 = .ok (.newarray .int, 2) := by decide +kernel
theorem dX1_init_9 : decode cX1_init 9 = .ok (.putfield 9, 3) := by decide +kernel
theorem dX1_init_12 : decode cX1_init 12 = .ok (.aload_n 0, 1) := by decide +kernel
theorem dX1_init_13 : decode cX1_init 13 = .ok (.bipush 120, 2) := by decide +kernel
theorem dX1_init_15 : decode cX1_init 15 = .ok (.newarray .int, 2) := by decide +kernel
theorem dX1_init_17 : decode cX1_init 17 = .ok (.putfield 15, 3) := by decide +kernel
theorem dX1_init_20 : decode cX1_init 20 = .ok (.aload_n 0, 1) := by decide +kernel
theorem dX1_init_21 : decode cX1_init 21 = .ok (.bipush 120, 2) := by decide +kernel
theorem dX1_init_23 : decode cX1_init 23 = .ok (.newarray .int, 2) := by decide +kernel
theorem dX1_init_25 : decode cX1_init 25 = .ok (.putfield 18, 3) := by decide +kernel
theorem dX1_init_28 : decode cX1_init 28 = .ok (.aload_n 0, 1) := by decide +kernel
theorem dX1_init_29 : decode cX1_init 29 = .ok (.bipush 120, 2) := by decide +kernel
theorem dX1_init_31 : decode cX1_init 31 = .ok (.newarray .int, 2) := by decide +kernel
theorem dX1_init_33 : decode cX1_init 33 = .ok (.putfield 21, 3) := by decide +kernel
theorem dX1_init_36 : decode cX1_init 36 = .ok (.aload_n 0, 1) := by decide +kernel
theorem dX1_init_37 : decode cX1_init 37 = .ok (.bipush 120, 2) := by decide +kernel
theorem dX1_init_39 : decode cX1_init 39 = .ok (.newarray .int, 2) := by decide +kernel
theorem dX1_init_41 : decode cX1_init 41 = .ok (.putfield 24, 3) := by decide +kernel
theorem dX1_init_44 : decode cX1_init 44 = .ok (.aload_n 0, 1) := by decide +kernel
theorem dX1_init_45 : decode cX1_init 45 = .ok (.bipush 26, 2) := by decide +kernel
theorem dX1_init_47 : decode cX1_init 47 = .ok (.newarray .int, 2) := by decide +kernel
theorem dX1_init_49 : decode cX1_init 49 = .ok (.putfield 27, 3) := by decide +kernel
theorem dX1_init_52 : decode cX1_init 52 = .ok (.aload_n 0, 1) := by decide +kernel
theorem dX1_init_53 : decode cX1_init 53 = .ok (.bipush 120, 2) := by decide +kernel
theorem dX1_init_55 : decode cX1_init 55 = .ok (.newarray .int, 2) := by decide +kernel
theorem dX1_init_57 : decode cX1_init 57 = .ok (.putfield 30, 3) := by decide +kernel
theorem dX1_init_60 : decode cX1_init 60 = .ok (.aload_n 0, 1) := by decide +kernel
theorem dX1_init_61 : decode cX1_init 61 = .ok (.bipush 120, 2) := by decide +kernel
theorem dX1_init_63 : decode cX1_init 63 = .ok (.newarray .boolean, 2) := by decide +kernel
theorem dX1_init_65 : decode cX1_init 65 = .ok (.putfield 33, 3) := by decide +kernel
theorem dX1_init_68 : decode cX1_init 68 = .ok (.aload_n 0, 1) := by decide +kernel
theorem dX1_init_69 : decode cX1_init 69 = .ok (.aload_n 1, 1) := by decide +kernel
theorem dX1_init_70 : decode cX1_init 70 = .ok (.putfield 37, 3) := by decide +kernel
theorem dX1_init_73 : decode cX1_init 73 = .ok (.aload_n 0, 1) := by decide +kernel
theorem dX1_init_74 : decode cX1_init 74 = .ok (.aload_n 2, 1) := by decide +kernel
theorem dX1_init_75 : decode cX1_init 75 = .ok (.putfield 41, 3) := by decide +kernel
theorem dX1_init_78 : decode cX1_init 78 = .ok (.return_, 1) := by decide +kernel
theorem dX1_forgetMatched_0 : decode cX1_forgetMatched 0 = .ok (.aload_n 0, 1) := by decide +kernel
theorem dX1_forgetMatched_1 : decode cX1_forgetMatched 1 = .ok (.iconst 0, 1) := by decide +kernel
theorem dX1_forgetMatched_2 : decode cX1_forgetMatched 2 = .ok (.putfield 44, 3) := by decide +kernel
theorem dX1_forgetMatched_5 : decode cX1_forgetMatched 5 = .ok (.return_, 1) := by decide +kernel
theorem dX1_forgetDifferences_0 : decode cX1_forgetDifferences 0 = .ok (.iconst 0, 1) := by decide +kernel
theorem dX1_forgetDifferences_1 : decode cX1_forgetDifferences 1 = .ok (.istore_n 1, 1) := by decide +kernel
theorem dX1_forgetDifferences_2 : decode cX1_forgetDifferences 2 = .ok (.iload_n 1, 1) := by decide +kernel
theorem dX1_forgetDifferences_3 : decode cX1_forgetDifferences 3 = .ok (.bipush 26, 2) := by decide +kernel
theorem dX1_forgetDifferences_5 : decode cX1_forgetDifferences 5 = .ok (.if_icmp .ge 16, 3) := by decide +kernel
theorem dX1_forgetDifferences_8 : decode cX1_forgetDifferences 8 = .ok (.aload_n 0, 1) := by decide +kernel
theorem dX1_forgetDifferences_9 : decode cX1_forgetDifferences 9 = .ok (.getfield 27, 3) := by decide +kernel
theorem dX1_forgetDifferences_12 : decode cX1_forgetDifferences 12 = .ok (.iload_n 1, 1) := by decide +kernel
theorem dX1_forgetDifferences_13 : decode cX1_forgetDifferences 13 = .ok (.iconst 0, 1) := by decide +kernel
theorem dX1_forgetDifferences_14 : decode cX1_forgetDifferences 14 = .ok (.iastore, 1) := by decide +kernel
theorem dX1_forgetDifferences_15 : decode cX1_forgetDifferences 15 = .ok (.iinc 1 1, 3) := by decide +kernel
theorem dX1_forgetDifferences_18 : decode cX1_forgetDifferences 18 = .ok (.goto (-16), 3) := by decide +kernel
theorem dX1_forgetDifferences_21 : decode cX1_forgetDifferences 21 = .ok (.aload_n 0, 1) := by decide +kernel
theorem dX1_forgetDifferences_22 : decode cX1_forgetDifferences 22 = .ok (.iconst 0, 1) := by decide +kernel
theorem dX1_forgetDifferences_23 : decode cX1_forgetDifferences 23 = .ok (.putfield 44, 3) := by decide +kernel
theorem dX1_forgetDifferences_26 : decode cX1_forgetDifferences 26 = .ok (.return_, 1) := by decide +kernel
theorem dX1_mustDiffer_0 : decode cX1_mustDiffer 0 = .ok (.aload_n 0, 1) := by decide +kernel
theorem dX1_mustDiffer_1 : decode cX1_mustDiffer 1 = .ok (.getfield 27, 3) := by decide +kernel
theorem dX1_mustDiffer_4 : decode cX1_mustDiffer 4 = .ok (.iload_n 1, 1) := by decide +kernel
theorem dX1_mustDiffer_5 : decode cX1_mustDiffer 5 = .ok (.iaload, 1) := by decide +kernel
theorem dX1_mustDiffer_6 : decode cX1_mustDiffer 6 = .ok (.iload_n 2, 1) := by decide +kernel
theorem dX1_mustDiffer_7 : decode cX1_mustDiffer 7 = .ok (.ishr, 1) := by decide +kernel
theorem dX1_mustDiffer_8 : decode cX1_mustDiffer 8 = .ok (.iconst 1, 1) := by decide +kernel
theorem dX1_mustDiffer_9 : decode cX1_mustDiffer 9 = .ok (.iand, 1) := by decide +kernel
theorem dX1_mustDiffer_10 : decode cX1_mustDiffer 10 = .ok (.iconst 1, 1) := by decide +kernel
theorem dX1_mustDiffer_11 : decode cX1_mustDiffer 11 = .ok (.if_icmp .ne 7, 3) := by decide +kernel
theorem dX1_mustDiffer_14 : decode cX1_mustDiffer 14 = .ok (.iconst 1, 1) := by decide +kernel
theorem dX1_mustDiffer_15 : decode cX1_mustDiffer 15 = .ok (.goto 4, 3) := by decide +kernel
theorem dX1_mustDiffer_18 : decode cX1_mustDiffer 18 = .ok (.iconst 0, 1) := by decide +kernel
theorem dX1_mustDiffer_19 : decode cX1_mustDiffer 19 = .ok (.ireturn, 1) := by decide +kernel
theorem dX1_setDiffer_0 : decode cX1_setDiffer 0 = .ok (.iconst 1, 1) := by decide +kernel
theorem dX1_setDiffer_1 : decode cX1_setDiffer 1 = .ok (.iload_n 2, 1) := by decide +kernel
theorem dX1_setDiffer_2 : decode cX1_setDiffer 2 = .ok (.ishl, 1) := by decide +kernel
theorem dX1_setDiffer_3 : decode cX1_setDiffer 3 = .ok (.istore 4, 2) := by decide +kernel
theorem dX1_setDiffer_5 : decode cX1_setDiffer 5 = .ok (.iconst 1, 1) := by decide +kernel
theorem dX1_setDiffer_6 : decode cX1_setDiffer 6 = .ok (.iload_n 1, 1) := by decide +kernel
theorem dX1_setDiffer_7 : decode cX1_setDiffer 7 = .ok (.ishl, 1) := by decide +kernel
theorem dX1_setDiffer_8 : decode cX1_setDiffer 8 = .ok (.istore 5, 2) := by decide +kernel
theorem dX1_setDiffer_10 : decode cX1_setDiffer 10 = .ok (.aload_n 0, 1) := by decide +kernel
theorem dX1_setDiffer_11 : decode cX1_setDiffer 11 = .ok (.getfield 27, 3) := by decide +kernel
theorem dX1_setDiffer_14 : decode cX1_setDiffer 14 = .ok (.iload_n 1, 1) := by decide +kernel
theorem dX1_setDiffer_15 : decode cX1_setDiffer 15 = .ok (.iload_n 3, 1) := by decide +kernel
theorem dX1_setDiffer_16 : decode cX1_setDiffer 16 = .ok (.ifCond .eq 15, 3) := by decide +kernel
theorem dX1_setDiffer_19 : decode cX1_setDiffer 19 = .ok (.aload_n 0, 1) := by decide +kernel
theorem dX1_setDiffer_20 : decode cX1_setDiffer 20 = .ok (.getfield 27, 3) := by decide +kernel
theorem dX1_setDiffer_23 : decode cX1_setDiffer 23 = .ok (.iload_n 1, 1) := by decide +kernel
theorem dX1_setDiffer_24 : decode cX1_setDiffer 24 = .ok (.iaload, 1) := by decide +kernel
theorem dX1_setDiffer_25 : decode cX1_setDiffer 25 = .ok (.iload 4, 2) := by decide +kernel
theorem dX1_setDiffer_27 : decode cX1_setDiffer 27 = .ok (.ior, 1) := by decide +kernel
theorem dX1_setDiffer_28 : decode cX1_setDiffer 28 = .ok (.goto 14, 3) := by decide +kernel
theorem dX1_setDiffer_31 : decode cX1_setDiffer 31 = .ok (.aload_n 0, 1) := by decide +kernel
theorem dX1_setDiffer_32 : decode cX1_setDiffer 32 = .ok (.getfield 27, 3) := by decide +kernel
theorem dX1_setDiffer_35 : decode cX1_setDiffer 35 = .ok (.iload_n 1, 1) := by decide +kernel
theorem dX1_setDiffer_36 : decode cX1_setDiffer 36 = .ok (.iaload, 1) := by decide +kernel
theorem dX1_setDiffer_37 : decode cX1_setDiffer 37 = .ok (.iload 4, 2) := by decide +kernel
theorem dX1_setDiffer_39 : decode cX1_setDiffer 39 = .ok (.iconst (-1), 1) := by decide +kernel
theorem dX1_setDiffer_40 : decode cX1_setDiffer 40 = .ok (.ixor, 1) := by decide +kernel
theorem dX1_setDiffer_41 : decode cX1_setDiffer 41 = .ok (.iand, 1) := by decide +kernel
theorem dX1_setDiffer_42 : decode cX1_setDiffer 42 = .ok (.iastore, 1) := by decide +kernel
theorem dX1_setDiffer_43 : decode cX1_setDiffer 43 = .ok (.aload_n 0, 1) := by decide +kernel
theorem dX1_setDiffer_44 : decode cX1_setDiffer 44 = .ok (.getfield 27, 3) := by decide +kernel
theorem dX1_setDiffer_47 : decode cX1_setDiffer 47 = .ok (.iload_n 2, 1) := by decide +kernel
theorem dX1_setDiffer_48 : decode cX1_setDiffer 48 = .ok (.iload_n 3, 1) := by decide +kernel
theorem dX1_setDiffer_49 : decode cX1_setDiffer 49 = .ok (.ifCond .eq 15, 3) := by decide +kernel
theorem dX1_setDiffer_52 : decode cX1_setDiffer 52 = .ok (.aload_n 0, 1) := by decide +kernel
theorem dX1_setDiffer_53 : decode cX1_setDiffer 53 = .ok (.getfield 27, 3) := by decide +kernel
theorem dX1_setDiffer_56 : decode cX1_setDiffer 56 = .ok (.iload_n 2, 1) := by decide +kernel
theorem dX1_setDiffer_57 : decode cX1_setDiffer 57 = .ok (.iaload, 1) := by decide +kernel
theorem dX1_setDiffer_58 : decode cX1_setDiffer 58 = .ok (.iload 5, 2) := by decide +kernel
theorem dX1_setDiffer_60 : decode cX1_setDiffer 60 = .ok (.ior, 1) := by decide +kernel
theorem dX1_setDiffer_61 : decode cX1_setDiffer 61 = .ok (.goto 14, 3) := by decide +kernel
theorem dX1_setDiffer_64 : decode cX1_setDiffer 64 = .ok (.aload_n 0, 1) := by decide +kernel
theorem dX1_setDiffer_65 : decode cX1_setDiffer 65 = .ok (.getfield 27, 3) := by decide +kernel
theorem dX1_setDiffer_68 : decode cX1_setDiffer 68 = .ok (.iload_n 2, 1) := by decide +kernel
theorem dX1_setDiffer_69 : decode cX1_setDiffer 69 = .ok (.iaload, 1) := by decide +kernel
theorem dX1_setDiffer_70 : decode cX1_setDiffer 70 = .ok (.iload 5, 2) := by decide +kernel
theorem dX1_setDiffer_72 : decode cX1_setDiffer 72 = .ok (.iconst (-1), 1) := by decide +kernel
theorem dX1_setDiffer_73 : decode cX1_setDiffer 73 = .ok (.ixor, 1) := by decide +kernel
theorem dX1_setDiffer_74 : decode cX1_setDiffer 74 = .ok (.iand, 1) := by decide +kernel
theorem dX1_setDiffer_75 : decode cX1_setDiffer 75 = .ok (.iastore, 1) := by decide +kernel
theorem dX1_setDiffer_76 : decode cX1_setDiffer 76 = .ok (.aload_n 0, 1) := by decide +kernel
theorem dX1_setDiffer_77 : decode cX1_setDiffer 77 = .ok (.iconst 0, 1) := by decide +kernel
theorem dX1_setDiffer_78 : decode cX1_setDiffer 78 = .ok (.putfield 44, 3) := by decide +kernel
theorem dX1_setDiffer_81 : decode cX1_setDiffer 81 = .ok (.return_, 1) := by decide +kernel
theorem dX1_countMatched_0 : decode cX1_countMatched 0 = .ok (.aload_n 0, 1) := by decide +kernel
theorem dX1_countMatched_1 : decode cX1_countMatched 1 = .ok (.invokevirtual 48, 3) := by decide +kernel
theorem dX1_countMatched_4 : decode cX1_countMatched 4 = .ok (.aload_n 0, 1) := by decide +kernel
theorem dX1_countMatched_5 : decode cX1_countMatched 5 = .ok (.getfield 51, 3) := by decide +kernel
theorem dX1_countMatched_8 : decode cX1_countMatched 8 = .ok (.ireturn, 1) := by decide +kernel
theorem dX1_matchedAt_0 : decode cX1_matchedAt 0 = .ok (.aload_n 0, 1) := by decide +kernel
theorem dX1_matchedAt_1 : decode cX1_matchedAt 1 = .ok (.invokevirtual 48, 3) := by decide +kernel
theorem dX1_matchedAt_4 : decode cX1_matchedAt 4 = .ok (.iload_n 1, 1) := by decide +kernel
theorem dX1_matchedAt_5 : decode cX1_matchedAt 5 = .ok (.ifCond .lt 20, 3) := by decide +kernel
theorem dX1_matchedAt_8 : decode cX1_matchedAt 8 = .ok (.iload_n 1, 1) := by decide +kernel
theorem dX1_matchedAt_9 : decode cX1_matchedAt 9 = .ok (.aload_n 0, 1) := by decide +kernel
theorem dX1_matchedAt_10 : decode cX1_matchedAt 10 = .ok (.getfield 51, 3) := by decide +kernel
theorem dX1_matchedAt_13 : decode cX1_matchedAt 13 = .ok (.if_icmp .ge 12, 3) := by decide +kernel
theorem dX1_matchedAt_16 : decode cX1_matchedAt 16 = .ok (.aload_n 0, 1) := by decide +kernel
theorem dX1_matchedAt_17 : decode cX1_matchedAt 17 = .ok (.getfield 30, 3) := by decide +kernel
theorem dX1_matchedAt_20 : decode cX1_matchedAt 20 = .ok (.iload_n 1, 1) := by decide +kernel
theorem dX1_matchedAt_21 : decode cX1_matchedAt 21 = .ok (.iaload, 1) := by decide +kernel
theorem dX1_matchedAt_22 : decode cX1_matchedAt 22 = .ok (.goto 4, 3) := by decide +kernel
theorem dX1_matchedAt_25 : decode cX1_matchedAt 25 = .ok (.iconst (-1), 1) := by decide +kernel
theorem dX1_matchedAt_26 : decode cX1_matchedAt 26 = .ok (.ireturn, 1) := by decide +kernel
theorem dX1_firstNode_0 : decode cX1_firstNode 0 = .ok (.aload_n 0, 1) := by decide +kernel
theorem dX1_firstNode_1 : decode cX1_firstNode 1 = .ok (.getfield 41, 3) := by decide +kernel
theorem dX1_firstNode_4 : decode cX1_firstNode 4 = .ok (.getfield 55, 3) := by decide +kernel
theorem dX1_firstNode_7 : decode cX1_firstNode 7 = .ok (.iload_n 1, 1) := by decide +kernel
theorem dX1_firstNode_8 : decode cX1_firstNode 8 = .ok (.iaload, 1) := by decide +kernel
theorem dX1_firstNode_9 : decode cX1_firstNode 9 = .ok (.istore_n 2, 1) := by decide +kernel
theorem dX1_firstNode_10 : decode cX1_firstNode 10 = .ok (.iload_n 2, 1) := by decide +kernel
theorem dX1_firstNode_11 : decode cX1_firstNode 11 = .ok (.iconst (-1), 1) := by decide +kernel
theorem dX1_firstNode_12 : decode cX1_firstNode 12 = .ok (.if_icmp .ne 7, 3) := by decide +kernel
theorem dX1_firstNode_15 : decode cX1_firstNode 15 = .ok (.iconst (-1), 1) := by decide +kernel
theorem dX1_firstNode_16 : decode cX1_firstNode 16 = .ok (.goto 9, 3) := by decide +kernel
theorem dX1_firstNode_19 : decode cX1_firstNode 19 = .ok (.aload_n 0, 1) := by decide +kernel
theorem dX1_firstNode_20 : decode cX1_firstNode 20 = .ok (.getfield 9, 3) := by decide +kernel
theorem dX1_firstNode_23 : decode cX1_firstNode 23 = .ok (.iload_n 2, 1) := by decide +kernel
theorem dX1_firstNode_24 : decode cX1_firstNode 24 = .ok (.iaload, 1) := by decide +kernel
theorem dX1_firstNode_25 : decode cX1_firstNode 25 = .ok (.ireturn, 1) := by decide +kernel
theorem dX1_howMany_0 : decode cX1_howMany 0 = .ok (.aload_n 0, 1) := by decide +kernel
theorem dX1_howMany_1 : decode cX1_howMany 1 = .ok (.getfield 41, 3) := by decide +kernel
theorem dX1_howMany_4 : decode cX1_howMany 4 = .ok (.getfield 55, 3) := by decide +kernel
theorem dX1_howMany_7 : decode cX1_howMany 7 = .ok (.iload_n 1, 1) := by decide +kernel
theorem dX1_howMany_8 : decode cX1_howMany 8 = .ok (.iaload, 1) := by decide +kernel
theorem dX1_howMany_9 : decode cX1_howMany 9 = .ok (.istore_n 2, 1) := by decide +kernel
theorem dX1_howMany_10 : decode cX1_howMany 10 = .ok (.iload_n 2, 1) := by decide +kernel
theorem dX1_howMany_11 : decode cX1_howMany 11 = .ok (.iconst (-1), 1) := by decide +kernel
theorem dX1_howMany_12 : decode cX1_howMany 12 = .ok (.if_icmp .ne 7, 3) := by decide +kernel
theorem dX1_howMany_15 : decode cX1_howMany 15 = .ok (.iconst (-1), 1) := by decide +kernel
theorem dX1_howMany_16 : decode cX1_howMany 16 = .ok (.goto 9, 3) := by decide +kernel
theorem dX1_howMany_19 : decode cX1_howMany 19 = .ok (.aload_n 0, 1) := by decide +kernel
theorem dX1_howMany_20 : decode cX1_howMany 20 = .ok (.getfield 15, 3) := by decide +kernel
theorem dX1_howMany_23 : decode cX1_howMany 23 = .ok (.iload_n 2, 1) := by decide +kernel
theorem dX1_howMany_24 : decode cX1_howMany 24 = .ok (.iaload, 1) := by decide +kernel
theorem dX1_howMany_25 : decode cX1_howMany 25 = .ok (.ireturn, 1) := by decide +kernel
theorem dX1_findAll_0 : decode cX1_findAll 0 = .ok (.aload_n 0, 1) := by decide +kernel
theorem dX1_findAll_1 : decode cX1_findAll 1 = .ok (.getfield 44, 3) := by decide +kernel
theorem dX1_findAll_4 : decode cX1_findAll 4 = .ok (.ifCond .eq 4, 3) := by decide +kernel
theorem dX1_findAll_7 : decode cX1_findAll 7 = .ok (.return_, 1) := by decide +kernel
theorem dX1_findAll_8 : decode cX1_findAll 8 = .ok (.aload_n 0, 1) := by decide +kernel
theorem dX1_findAll_9 : decode cX1_findAll 9 = .ok (.iconst 0, 1) := by decide +kernel
theorem dX1_findAll_10 : decode cX1_findAll 10 = .ok (.putfield 51, 3) := by decide +kernel
theorem dX1_findAll_13 : decode cX1_findAll 13 = .ok (.iconst 0, 1) := by decide +kernel
theorem dX1_findAll_14 : decode cX1_findAll 14 = .ok (.istore_n 1, 1) := by decide +kernel
theorem dX1_findAll_15 : decode cX1_findAll 15 = .ok (.iload_n 1, 1) := by decide +kernel
theorem dX1_findAll_16 : decode cX1_findAll 16 = .ok (.aload_n 0, 1) := by decide +kernel
theorem dX1_findAll_17 : decode cX1_findAll 17 = .ok (.getfield 37, 3) := by decide +kernel
theorem dX1_findAll_20 : decode cX1_findAll 20 = .ok (.getfield 60, 3) := by decide +kernel
theorem dX1_findAll_23 : decode cX1_findAll 23 = .ok (.if_icmp .ge 49, 3) := by decide +kernel
theorem dX1_findAll_26 : decode cX1_findAll 26 = .ok (.aload_n 0, 1) := by decide +kernel
theorem dX1_findAll_27 : decode cX1_findAll 27 = .ok (.getfield 33, 3) := by decide +kernel
theorem dX1_findAll_30 : decode cX1_findAll 30 = .ok (.iload_n 1, 1) := by decide +kernel
theorem dX1_findAll_31 : decode cX1_findAll 31 = .ok (.aload_n 0, 1) := by decide +kernel
theorem dX1_findAll_32 : decode cX1_findAll 32 = .ok (.iload_n 1, 1) := by decide +kernel
theorem dX1_findAll_33 : decode cX1_findAll 33 = .ok (.invokevirtual 63, 3) := by decide +kernel
theorem dX1_findAll_36 : decode cX1_findAll 36 = .ok (.bastore, 1) := by decide +kernel
theorem dX1_findAll_37 : decode cX1_findAll 37 = .ok (.aload_n 0, 1) := by decide +kernel
theorem dX1_findAll_38 : decode cX1_findAll 38 = .ok (.getfield 33, 3) := by decide +kernel
theorem dX1_findAll_41 : decode cX1_findAll 41 = .ok (.iload_n 1, 1) := by decide +kernel
theorem dX1_findAll_42 : decode cX1_findAll 42 = .ok (.baload, 1) := by decide +kernel
theorem dX1_findAll_43 : decode cX1_findAll 43 = .ok (.ifCond .eq 23, 3) := by decide +kernel
theorem dX1_findAll_46 : decode cX1_findAll 46 = .ok (.aload_n 0, 1) := by decide +kernel
theorem dX1_findAll_47 : decode cX1_findAll 47 = .ok (.getfield 30, 3) := by decide +kernel
theorem dX1_findAll_50 : decode cX1_findAll 50 = .ok (.aload_n 0, 1) := by decide +kernel
theorem dX1_findAll_51 : decode cX1_findAll 51 = .ok (.getfield 51, 3) := by decide +kernel
theorem dX1_findAll_54 : decode cX1_findAll 54 = .ok (.iload_n 1, 1) := by decide +kernel
theorem dX1_findAll_55 : decode cX1_findAll 55 = .ok (.iastore, 1) := by decide +kernel
theorem dX1_findAll_56 : decode cX1_findAll 56 = .ok (.aload_n 0, 1) := by decide +kernel
theorem dX1_findAll_57 : decode cX1_findAll 57 = .ok (.dup, 1) := by decide +kernel
theorem dX1_findAll_58 : decode cX1_findAll 58 = .ok (.getfield 51, 3) := by decide +kernel
theorem dX1_findAll_61 : decode cX1_findAll 61 = .ok (.iconst 1, 1) := by decide +kernel
theorem dX1_findAll_62 : decode cX1_findAll 62 = .ok (.iadd, 1) := by decide +kernel
theorem dX1_findAll_63 : decode cX1_findAll 63 = .ok (.putfield 51, 3) := by decide +kernel
theorem dX1_findAll_66 : decode cX1_findAll 66 = .ok (.iinc 1 1, 3) := by decide +kernel
theorem dX1_findAll_69 : decode cX1_findAll 69 = .ok (.goto (-54), 3) := by decide +kernel
theorem dX1_findAll_72 : decode cX1_findAll 72 = .ok (.aload_n 0, 1) := by decide +kernel
theorem dX1_findAll_73 : decode cX1_findAll 73 = .ok (.iconst 1, 1) := by decide +kernel
theorem dX1_findAll_74 : decode cX1_findAll 74 = .ok (.putfield 44, 3) := by decide +kernel
theorem dX1_findAll_77 : decode cX1_findAll 77 = .ok (.return_, 1) := by decide +kernel
theorem dX1_preparePattern_0 : decode cX1_preparePattern 0 = .ok (.aload_n 0, 1) := by decide +kernel
theorem dX1_preparePattern_1 : decode cX1_preparePattern 1 = .ok (.aload_n 0, 1) := by decide +kernel
theorem dX1_preparePattern_2 : decode cX1_preparePattern 2 = .ok (.getfield 41, 3) := by decide +kernel
theorem dX1_preparePattern_5 : decode cX1_preparePattern 5 = .ok (.getfield 60, 3) := by decide +kernel
theorem dX1_preparePattern_8 : decode cX1_preparePattern 8 = .ok (.putfield 67, 3) := by decide +kernel
theorem dX1_preparePattern_11 : decode cX1_preparePattern 11 = .ok (.aload_n 0, 1) := by decide +kernel
theorem dX1_preparePattern_12 : decode cX1_preparePattern 12 = .ok (.aload_n 0, 1) := by decide +kernel
theorem dX1_preparePattern_13 : decode cX1_preparePattern 13 = .ok (.getfield 41, 3) := by decide +kernel
theorem dX1_preparePattern_16 : decode cX1_preparePattern 16 = .ok (.getfield 60, 3) := by decide +kernel
theorem dX1_preparePattern_19 : decode cX1_preparePattern 19 = .ok (.putfield 70, 3) := by decide +kernel
theorem dX1_preparePattern_22 : decode cX1_preparePattern 22 = .ok (.iconst (-1), 1) := by decide +kernel
theorem dX1_preparePattern_23 : decode cX1_preparePattern 23 = .ok (.istore_n 1, 1) := by decide +kernel
theorem dX1_preparePattern_24 : decode cX1_preparePattern 24 = .ok (.iconst 0, 1) := by decide +kernel
theorem dX1_preparePattern_25 : decode cX1_preparePattern 25 = .ok (.istore_n 2, 1) := by decide +kernel
theorem dX1_preparePattern_26 : decode cX1_preparePattern 26 = .ok (.iload_n 2, 1) := by decide +kernel
theorem dX1_preparePattern_27 : decode cX1_preparePattern 27 = .ok (.aload_n 0, 1) := by decide +kernel
theorem dX1_preparePattern_28 : decode cX1_preparePattern 28 = .ok (.getfield 41, 3) := by decide +kernel
theorem dX1_preparePattern_31 : decode cX1_preparePattern 31 = .ok (.getfield 60, 3) := by decide +kernel
theorem dX1_preparePattern_34 : decode cX1_preparePattern 34 = .ok (.if_icmp .ge 84, 3) := by decide +kernel
theorem dX1_preparePattern_37 : decode cX1_preparePattern 37 = .ok (.aload_n 0, 1) := by decide +kernel
theorem dX1_preparePattern_38 : decode cX1_preparePattern 38 = .ok (.getfield 24, 3) := by decide +kernel
theorem dX1_preparePattern_41 : decode cX1_preparePattern 41 = .ok (.iload_n 2, 1) := by decide +kernel
theorem dX1_preparePattern_42 : decode cX1_preparePattern 42 = .ok (.aload_n 0, 1) := by decide +kernel
theorem dX1_preparePattern_43 : decode cX1_preparePattern 43 = .ok (.iload_n 2, 1) := by decide +kernel
theorem dX1_preparePattern_44 : decode cX1_preparePattern 44 = .ok (.invokevirtual 73, 3) := by decide +kernel
theorem dX1_preparePattern_47 : decode cX1_preparePattern 47 = .ok (.iastore, 1) := by decide +kernel
theorem dX1_preparePattern_48 : decode cX1_preparePattern 48 = .ok (.aload_n 0, 1) := by decide +kernel
theorem dX1_preparePattern_49 : decode cX1_preparePattern 49 = .ok (.getfield 41, 3) := by decide +kernel
theorem dX1_preparePattern_52 : decode cX1_preparePattern 52 = .ok (.getfield 77, 3) := by decide +kernel
theorem dX1_preparePattern_55 : decode cX1_preparePattern 55 = .ok (.iload_n 2, 1) := by decide +kernel
theorem dX1_preparePattern_56 : decode cX1_preparePattern 56 = .ok (.iaload, 1) := by decide +kernel
theorem dX1_preparePattern_57 : decode cX1_preparePattern 57 = .ok (.iconst 3, 1) := by decide +kernel
theorem dX1_preparePattern_58 : decode cX1_preparePattern 58 = .ok (.if_icmp .ne 8, 3) := by decide +kernel
theorem dX1_preparePattern_61 : decode cX1_preparePattern 61 = .ok (.aload_n 0, 1) := by decide +kernel
theorem dX1_preparePattern_62 : decode cX1_preparePattern 62 = .ok (.iload_n 2, 1) := by decide +kernel
theorem dX1_preparePattern_63 : decode cX1_preparePattern 63 = .ok (.putfield 70, 3) := by decide +kernel
theorem dX1_preparePattern_66 : decode cX1_preparePattern 66 = .ok (.aload_n 0, 1) := by decide +kernel
theorem dX1_preparePattern_67 : decode cX1_preparePattern 67 = .ok (.getfield 41, 3) := by decide +kernel
theorem dX1_preparePattern_70 : decode cX1_preparePattern 70 = .ok (.getfield 77, 3) := by decide +kernel
theorem dX1_preparePattern_73 : decode cX1_preparePattern 73 = .ok (.iload_n 2, 1) := by decide +kernel
theorem dX1_preparePattern_74 : decode cX1_preparePattern 74 = .ok (.iaload, 1) := by decide +kernel
theorem dX1_preparePattern_75 : decode cX1_preparePattern 75 = .ok (.iconst 2, 1) := by decide +kernel
theorem dX1_preparePattern_76 : decode cX1_preparePattern 76 = .ok (.if_icmp .ne 36, 3) := by decide +kernel
theorem dX1_preparePattern_79 : decode cX1_preparePattern 79 = .ok (.iload_n 1, 1) := by decide +kernel
theorem dX1_preparePattern_80 : decode cX1_preparePattern 80 = .ok (.iconst (-1), 1) := by decide +kernel
theorem dX1_preparePattern_81 : decode cX1_preparePattern 81 = .ok (.if_icmp .eq 29, 3) := by decide +kernel
theorem dX1_preparePattern_84 : decode cX1_preparePattern 84 = .ok (.aload_n 0, 1) := by decide +kernel
theorem dX1_preparePattern_85 : decode cX1_preparePattern 85 = .ok (.getfield 41, 3) := by decide +kernel
theorem dX1_preparePattern_88 : decode cX1_preparePattern 88 = .ok (.getfield 80, 3) := by decide +kernel
theorem dX1_preparePattern_91 : decode cX1_preparePattern 91 = .ok (.iload_n 1, 1) := by decide +kernel
theorem dX1_preparePattern_92 : decode cX1_preparePattern 92 = .ok (.iaload, 1) := by decide +kernel
theorem dX1_preparePattern_93 : decode cX1_preparePattern 93 = .ok (.aload_n 0, 1) := by decide +kernel
theorem dX1_preparePattern_94 : decode cX1_preparePattern 94 = .ok (.getfield 41, 3) := by decide +kernel
theorem dX1_preparePattern_97 : decode cX1_preparePattern 97 = .ok (.getfield 80, 3) := by decide +kernel
theorem dX1_preparePattern_100 : decode cX1_preparePattern 100 = .ok (.iload_n 2, 1) := by decide +kernel
theorem dX1_preparePattern_101 : decode cX1_preparePattern 101 = .ok (.iaload, 1) := by decide +kernel
theorem dX1_preparePattern_102 : decode cX1_preparePattern 102 = .ok (.if_icmp .ne 8, 3) := by decide +kernel
theorem dX1_preparePattern_105 : decode cX1_preparePattern 105 = .ok (.aload_n 0, 1) := by decide +kernel
theorem dX1_preparePattern_106 : decode cX1_preparePattern 106 = .ok (.iload_n 1, 1) := by decide +kernel
theorem dX1_preparePattern_107 : decode cX1_preparePattern 107 = .ok (.putfield 67, 3) := by decide +kernel
theorem dX1_preparePattern_110 : decode cX1_preparePattern 110 = .ok (.iload_n 2, 1) := by decide +kernel
theorem dX1_preparePattern_111 : decode cX1_preparePattern 111 = .ok (.istore_n 1, 1) := by decide +kernel
theorem dX1_preparePattern_112 : decode cX1_preparePattern 112 = .ok (.iinc 2 1, 3) := by decide +kernel
theorem dX1_preparePattern_115 : decode cX1_preparePattern 115 = .ok (.goto (-89), 3) := by decide +kernel
theorem dX1_preparePattern_118 : decode cX1_preparePattern 118 = .ok (.return_, 1) := by decide +kernel
theorem dX1_countSingles_0 : decode cX1_countSingles 0 = .ok (.aload_n 0, 1) := by decide +kernel
theorem dX1_countSingles_1 : decode cX1_countSingles 1 = .ok (.getfield 41, 3) := by decide +kernel
theorem dX1_countSingles_4 : decode cX1_countSingles 4 = .ok (.getfield 77, 3) := by decide +kernel
theorem dX1_countSingles_7 : decode cX1_countSingles 7 = .ok (.iload_n 1, 1) := by decide +kernel
theorem dX1_countSingles_8 : decode cX1_countSingles 8 = .ok (.iaload, 1) := by decide +kernel
theorem dX1_countSingles_9 : decode cX1_countSingles 9 = .ok (.iconst 2, 1) := by decide +kernel
theorem dX1_countSingles_10 : decode cX1_countSingles 10 = .ok (.if_icmp .ne 15, 3) := by decide +kernel
theorem dX1_countSingles_13 : decode cX1_countSingles 13 = .ok (.aload_n 0, 1) := by decide +kernel
theorem dX1_countSingles_14 : decode cX1_countSingles 14 = .ok (.getfield 41, 3) := by decide +kernel
theorem dX1_countSingles_17 : decode cX1_countSingles 17 = .ok (.getfield 80, 3) := by decide +kernel
theorem dX1_countSingles_20 : decode cX1_countSingles 20 = .ok (.iload_n 1, 1) := by decide +kernel
theorem dX1_countSingles_21 : decode cX1_countSingles 21 = .ok (.iaload, 1) := by decide +kernel
theorem dX1_countSingles_22 : decode cX1_countSingles 22 = .ok (.goto 4, 3) := by decide +kernel
theorem dX1_countSingles_25 : decode cX1_countSingles 25 = .ok (.iload_n 1, 1) := by decide +kernel
theorem dX1_countSingles_26 : decode cX1_countSingles 26 = .ok (.istore_n 2, 1) := by decide +kernel
theorem dX1_countSingles_27 : decode cX1_countSingles 27 = .ok (.iconst 0, 1) := by decide +kernel
theorem dX1_countSingles_28 : decode cX1_countSingles 28 = .ok (.istore_n 3, 1) := by decide +kernel
theorem dX1_countSingles_29 : decode cX1_countSingles 29 = .ok (.iload_n 1, 1) := by decide +kernel
theorem dX1_countSingles_30 : decode cX1_countSingles 30 = .ok (.iconst 1, 1) := by decide +kernel
theorem dX1_countSingles_31 : decode cX1_countSingles 31 = .ok (.iadd, 1) := by decide +kernel
theorem dX1_countSingles_32 : decode cX1_countSingles 32 = .ok (.istore 4, 2) := by decide +kernel
theorem dX1_countSingles_34 : decode cX1_countSingles 34 = .ok (.iload 4, 2) := by decide +kernel
theorem dX1_countSingles_36 : decode cX1_countSingles 36 = .ok (.aload_n 0, 1) := by decide +kernel
theorem dX1_countSingles_37 : decode cX1_countSingles 37 = .ok (.getfield 41, 3) := by decide +kernel
theorem dX1_countSingles_40 : decode cX1_countSingles 40 = .ok (.getfield 60, 3) := by decide +kernel
theorem dX1_countSingles_43 : decode cX1_countSingles 43 = .ok (.if_icmp .ge 40, 3) := by decide +kernel
theorem dX1_countSingles_46 : decode cX1_countSingles 46 = .ok (.aload_n 0, 1) := by decide +kernel
theorem dX1_countSingles_47 : decode cX1_countSingles 47 = .ok (.getfield 41, 3) := by decide +kernel
theorem dX1_countSingles_50 : decode cX1_countSingles 50 = .ok (.getfield 80, 3) := by decide +kernel
theorem dX1_countSingles_53 : decode cX1_countSingles 53 = .ok (.iload 4, 2) := by decide +kernel
theorem dX1_countSingles_55 : decode cX1_countSingles 55 = .ok (.iaload, 1) := by decide +kernel
theorem dX1_countSingles_56 : decode cX1_countSingles 56 = .ok (.iload_n 2, 1) := by decide +kernel
theorem dX1_countSingles_57 : decode cX1_countSingles 57 = .ok (.if_icmp .ne 20, 3) := by decide +kernel
theorem dX1_countSingles_60 : decode cX1_countSingles 60 = .ok (.aload_n 0, 1) := by decide +kernel
theorem dX1_countSingles_61 : decode cX1_countSingles 61 = .ok (.getfield 41, 3) := by decide +kernel
theorem dX1_countSingles_64 : decode cX1_countSingles 64 = .ok (.getfield 77, 3) := by decide +kernel
theorem dX1_countSingles_67 : decode cX1_countSingles 67 = .ok (.iload 4, 2) := by decide +kernel
theorem dX1_countSingles_69 : decode cX1_countSingles 69 = .ok (.iaload, 1) := by decide +kernel
theorem dX1_countSingles_70 : decode cX1_countSingles 70 = .ok (.iconst 2, 1) := by decide +kernel
theorem dX1_countSingles_71 : decode cX1_countSingles 71 = .ok (.if_icmp .eq 6, 3) := by decide +kernel
theorem dX1_countSingles_74 : decode cX1_countSingles 74 = .ok (.iinc 3 1, 3) := by decide +kernel
theorem dX1_countSingles_77 : decode cX1_countSingles 77 = .ok (.iinc 4 1, 3) := by decide +kernel
theorem dX1_countSingles_80 : decode cX1_countSingles 80 = .ok (.goto (-46), 3) := by decide +kernel
theorem dX1_countSingles_83 : decode cX1_countSingles 83 = .ok (.iload_n 3, 1) := by decide +kernel
theorem dX1_countSingles_84 : decode cX1_countSingles 84 = .ok (.ireturn, 1) := by decide +kernel
theorem dX1_findWay_0 : decode cX1_findWay 0 = .ok (.aload_n 0, 1) := by decide +kernel
theorem dX1_findWay_1 : decode cX1_findWay 1 = .ok (.getfield 67, 3) := by decide +kernel
theorem dX1_findWay_4 : decode cX1_findWay 4 = .ok (.aload_n 0, 1) := by decide +kernel
theorem dX1_findWay_5 : decode cX1_findWay 5 = .ok (.getfield 70, 3) := by decide +kernel
theorem dX1_findWay_8 : decode cX1_findWay 8 = .ok (.if_icmp .ge 7, 3) := by decide +kernel
theorem dX1_findWay_11 : decode cX1_findWay 11 = .ok (.iconst 1, 1) := by decide +kernel
theorem dX1_findWay_12 : decode cX1_findWay 12 = .ok (.goto 4, 3) := by decide +kernel
theorem dX1_findWay_15 : decode cX1_findWay 15 = .ok (.iconst 0, 1) := by decide +kernel
theorem dX1_findWay_16 : decode cX1_findWay 16 = .ok (.istore_n 2, 1) := by decide +kernel
theorem dX1_findWay_17 : decode cX1_findWay 17 = .ok (.aload_n 0, 1) := by decide +kernel
theorem dX1_findWay_18 : decode cX1_findWay 18 = .ok (.getfield 67, 3) := by decide +kernel
theorem dX1_findWay_21 : decode cX1_findWay 21 = .ok (.aload_n 0, 1) := by decide +kernel
theorem dX1_findWay_22 : decode cX1_findWay 22 = .ok (.getfield 70, 3) := by decide +kernel
theorem dX1_findWay_25 : decode cX1_findWay 25 = .ok (.invokestatic 83, 3) := by decide +kernel
theorem dX1_findWay_28 : decode cX1_findWay 28 = .ok (.istore_n 3, 1) := by decide +kernel
theorem dX1_findWay_29 : decode cX1_findWay 29 = .ok (.aload_n 0, 1) := by decide +kernel
theorem dX1_findWay_30 : decode cX1_findWay 30 = .ok (.getfield 67, 3) := by decide +kernel
theorem dX1_findWay_33 : decode cX1_findWay 33 = .ok (.aload_n 0, 1) := by decide +kernel
theorem dX1_findWay_34 : decode cX1_findWay 34 = .ok (.getfield 70, 3) := by decide +kernel
theorem dX1_findWay_37 : decode cX1_findWay 37 = .ok (.invokestatic 89, 3) := by decide +kernel
theorem dX1_findWay_40 : decode cX1_findWay 40 = .ok (.istore 4, 2) := by decide +kernel
theorem dX1_findWay_42 : decode cX1_findWay 42 = .ok (.iconst 0, 1) := by decide +kernel
theorem dX1_findWay_43 : decode cX1_findWay 43 = .ok (.istore 5, 2) := by decide +kernel
theorem dX1_findWay_45 : decode cX1_findWay 45 = .ok (.iconst 0, 1) := by decide +kernel
theorem dX1_findWay_46 : decode cX1_findWay 46 = .ok (.istore 6, 2) := by decide +kernel
theorem dX1_findWay_48 : decode cX1_findWay 48 = .ok (.aload_n 0, 1) := by decide +kernel
theorem dX1_findWay_49 : decode cX1_findWay 49 = .ok (.getfield 37, 3) := by decide +kernel
theorem dX1_findWay_52 : decode cX1_findWay 52 = .ok (.getfield 60, 3) := by decide +kernel
theorem dX1_findWay_55 : decode cX1_findWay 55 = .ok (.iconst 1, 1) := by decide +kernel
theorem dX1_findWay_56 : decode cX1_findWay 56 = .ok (.iadd, 1) := by decide +kernel
theorem dX1_findWay_57 : decode cX1_findWay 57 = .ok (.aload_n 0, 1) := by decide +kernel
theorem dX1_findWay_58 : decode cX1_findWay 58 = .ok (.getfield 37, 3) := by decide +kernel
theorem dX1_findWay_61 : decode cX1_findWay 61 = .ok (.getfield 60, 3) := by decide +kernel
theorem dX1_findWay_64 : decode cX1_findWay 64 = .ok (.iconst 1, 1) := by decide +kernel
theorem dX1_findWay_65 : decode cX1_findWay 65 = .ok (.iadd, 1) := by decide +kernel
theorem dX1_findWay_66 : decode cX1_findWay 66 = .ok (.imul, 1) := by decide +kernel
theorem dX1_findWay_67 : decode cX1_findWay 67 = .ok (.istore 7, 2) := by decide +kernel
theorem dX1_findWay_69 : decode cX1_findWay 69 = .ok (.iconst 0, 1) := by decide +kernel
theorem dX1_findWay_70 : decode cX1_findWay 70 = .ok (.istore 8, 2) := by decide +kernel
theorem dX1_findWay_72 : decode cX1_findWay 72 = .ok (.iload 8, 2) := by decide +kernel
theorem dX1_findWay_74 : decode cX1_findWay 74 = .ok (.iload 7, 2) := by decide +kernel
theorem dX1_findWay_76 : decode cX1_findWay 76 = .ok (.if_icmp .ge 90, 3) := by decide +kernel
theorem dX1_findWay_79 : decode cX1_findWay 79 = .ok (.aload_n 0, 1) := by decide +kernel
theorem dX1_findWay_80 : decode cX1_findWay 80 = .ok (.iload_n 2, 1) := by decide +kernel
theorem dX1_findWay_81 : decode cX1_findWay 81 = .ok (.ifCond .eq 8, 3) := by decide +kernel
theorem dX1_findWay_84 : decode cX1_findWay 84 = .ok (.iload 5, 2) := by decide +kernel
theorem dX1_findWay_86 : decode cX1_findWay 86 = .ok (.goto 5, 3) := by decide +kernel
theorem dX1_findWay_89 : decode cX1_findWay 89 = .ok (.iload 6, 2) := by decide +kernel
theorem dX1_findWay_91 : decode cX1_findWay 91 = .ok (.putfield 92, 3) := by decide +kernel
theorem dX1_findWay_94 : decode cX1_findWay 94 = .ok (.aload_n 0, 1) := by decide +kernel
theorem dX1_findWay_95 : decode cX1_findWay 95 = .ok (.iload_n 2, 1) := by decide +kernel
theorem dX1_findWay_96 : decode cX1_findWay 96 = .ok (.ifCond .eq 8, 3) := by decide +kernel
theorem dX1_findWay_99 : decode cX1_findWay 99 = .ok (.iload 6, 2) := by decide +kernel
theorem dX1_findWay_101 : decode cX1_findWay 101 = .ok (.goto 5, 3) := by decide +kernel
theorem dX1_findWay_104 : decode cX1_findWay 104 = .ok (.iload 5, 2) := by decide +kernel
theorem dX1_findWay_106 : decode cX1_findWay 106 = .ok (.putfield 95, 3) := by decide +kernel
theorem dX1_findWay_109 : decode cX1_findWay 109 = .ok (.aload_n 0, 1) := by decide +kernel
theorem dX1_findWay_110 : decode cX1_findWay 110 = .ok (.iload_n 1, 1) := by decide +kernel
theorem dX1_findWay_111 : decode cX1_findWay 111 = .ok (.invokevirtual 98, 3) := by decide +kernel
theorem dX1_findWay_114 : decode cX1_findWay 114 = .ok (.istore 9, 2) := by decide +kernel
theorem dX1_findWay_116 : decode cX1_findWay 116 = .ok (.iload 9, 2) := by decide +kernel
theorem dX1_findWay_118 : decode cX1_findWay 118 = .ok (.aload_n 0, 1) := by decide +kernel
theorem dX1_findWay_119 : decode cX1_findWay 119 = .ok (.getfield 41, 3) := by decide +kernel
theorem dX1_findWay_122 : decode cX1_findWay 122 = .ok (.getfield 60, 3) := by decide +kernel
theorem dX1_findWay_125 : decode cX1_findWay 125 = .ok (.if_icmp .lt 5, 3) := by decide +kernel
theorem dX1_findWay_128 : decode cX1_findWay 128 = .ok (.iconst 1, 1) := by decide +kernel
theorem dX1_findWay_129 : decode cX1_findWay 129 = .ok (.ireturn, 1) := by decide +kernel
theorem dX1_findWay_130 : decode cX1_findWay 130 = .ok (.iload 9, 2) := by decide +kernel
theorem dX1_findWay_132 : decode cX1_findWay 132 = .ok (.iload 4, 2) := by decide +kernel
theorem dX1_findWay_134 : decode cX1_findWay 134 = .ok (.if_icmp .le 9, 3) := by decide +kernel
theorem dX1_findWay_137 : decode cX1_findWay 137 = .ok (.iinc 6 1, 3) := by decide +kernel
theorem dX1_findWay_140 : decode cX1_findWay 140 = .ok (.goto 20, 3) := by decide +kernel
theorem dX1_findWay_143 : decode cX1_findWay 143 = .ok (.iload 9, 2) := by decide +kernel
theorem dX1_findWay_145 : decode cX1_findWay 145 = .ok (.iload_n 3, 1) := by decide +kernel
theorem dX1_findWay_146 : decode cX1_findWay 146 = .ok (.if_icmp .le 12, 3) := by decide +kernel
theorem dX1_findWay_149 : decode cX1_findWay 149 = .ok (.iinc 5 1, 3) := by decide +kernel
theorem dX1_findWay_152 : decode cX1_findWay 152 = .ok (.iconst 0, 1) := by decide +kernel
theorem dX1_findWay_153 : decode cX1_findWay 153 = .ok (.istore 6, 2) := by decide +kernel
theorem dX1_findWay_155 : decode cX1_findWay 155 = .ok (.goto 5, 3) := by decide +kernel
theorem dX1_findWay_158 : decode cX1_findWay 158 = .ok (.iconst 0, 1) := by decide +kernel
theorem dX1_findWay_159 : decode cX1_findWay 159 = .ok (.ireturn, 1) := by decide +kernel
theorem dX1_findWay_160 : decode cX1_findWay 160 = .ok (.iinc 8 1, 3) := by decide +kernel
theorem dX1_findWay_163 : decode cX1_findWay 163 = .ok (.goto (-91), 3) := by decide +kernel
theorem dX1_findWay_166 : decode cX1_findWay 166 = .ok (.iconst 0, 1) := by decide +kernel
theorem dX1_findWay_167 : decode cX1_findWay 167 = .ok (.ireturn, 1) := by decide +kernel
theorem dX1_firstFailing_0 : decode cX1_firstFailing 0 = .ok (.iconst 0, 1) := by decide +kernel
theorem dX1_firstFailing_1 : decode cX1_firstFailing 1 = .ok (.istore_n 2, 1) := by decide +kernel
theorem dX1_firstFailing_2 : decode cX1_firstFailing 2 = .ok (.iload_n 2, 1) := by decide +kernel
theorem dX1_firstFailing_3 : decode cX1_firstFailing 3 = .ok (.aload_n 0, 1) := by decide +kernel
theorem dX1_firstFailing_4 : decode cX1_firstFailing 4 = .ok (.getfield 41, 3) := by decide +kernel
theorem dX1_firstFailing_7 : decode cX1_firstFailing 7 = .ok (.getfield 60, 3) := by decide +kernel
theorem dX1_firstFailing_10 : decode cX1_firstFailing 10 = .ok (.if_icmp .ge 133, 3) := by decide +kernel
theorem dX1_firstFailing_13 : decode cX1_firstFailing 13 = .ok (.aload_n 0, 1) := by decide +kernel
theorem dX1_firstFailing_14 : decode cX1_firstFailing 14 = .ok (.getfield 41, 3) := by decide +kernel
theorem dX1_firstFailing_17 : decode cX1_firstFailing 17 = .ok (.getfield 77, 3) := by decide +kernel
theorem dX1_firstFailing_20 : decode cX1_firstFailing 20 = .ok (.iload_n 2, 1) := by decide +kernel
theorem dX1_firstFailing_21 : decode cX1_firstFailing 21 = .ok (.iaload, 1) := by decide +kernel
theorem dX1_firstFailing_22 : decode cX1_firstFailing 22 = .ok (.iconst 2, 1) := by decide +kernel
theorem dX1_firstFailing_23 : decode cX1_firstFailing 23 = .ok (.if_icmp .ne 12, 3) := by decide +kernel
theorem dX1_firstFailing_26 : decode cX1_firstFailing 26 = .ok (.aload_n 0, 1) := by decide +kernel
theorem dX1_firstFailing_27 : decode cX1_firstFailing 27 = .ok (.iload_n 2, 1) := by decide +kernel
theorem dX1_firstFailing_28 : decode cX1_firstFailing 28 = .ok (.invokevirtual 101, 3) := by decide +kernel
theorem dX1_firstFailing_31 : decode cX1_firstFailing 31 = .ok (.istore_n 3, 1) := by decide +kernel
theorem dX1_firstFailing_32 : decode cX1_firstFailing 32 = .ok (.goto 99, 3) := by decide +kernel
theorem dX1_firstFailing_35 : decode cX1_firstFailing 35 = .ok (.aload_n 0, 1) := by decide +kernel
theorem dX1_firstFailing_36 : decode cX1_firstFailing 36 = .ok (.iload_n 2, 1) := by decide +kernel
theorem dX1_firstFailing_37 : decode cX1_firstFailing 37 = .ok (.iload_n 1, 1) := by decide +kernel
theorem dX1_firstFailing_38 : decode cX1_firstFailing 38 = .ok (.invokevirtual 104, 3) := by decide +kernel
theorem dX1_firstFailing_41 : decode cX1_firstFailing 41 = .ok (.ifCond .ne 8, 3) := by decide +kernel
theorem dX1_firstFailing_44 : decode cX1_firstFailing 44 = .ok (.iconst 0, 1) := by decide +kernel
theorem dX1_firstFailing_45 : decode cX1_firstFailing 45 = .ok (.istore_n 3, 1) := by decide +kernel
theorem dX1_firstFailing_46 : decode cX1_firstFailing 46 = .ok (.goto 85, 3) := by decide +kernel
theorem dX1_firstFailing_49 : decode cX1_firstFailing 49 = .ok (.aload_n 0, 1) := by decide +kernel
theorem dX1_firstFailing_50 : decode cX1_firstFailing 50 = .ok (.getfield 41, 3) := by decide +kernel
theorem dX1_firstFailing_53 : decode cX1_firstFailing 53 = .ok (.getfield 77, 3) := by decide +kernel
theorem dX1_firstFailing_56 : decode cX1_firstFailing 56 = .ok (.iload_n 2, 1) := by decide +kernel
theorem dX1_firstFailing_57 : decode cX1_firstFailing 57 = .ok (.iaload, 1) := by decide +kernel
theorem dX1_firstFailing_58 : decode cX1_firstFailing 58 = .ok (.ifCond .ne 18, 3) := by decide +kernel
theorem dX1_firstFailing_61 : decode cX1_firstFailing 61 = .ok (.aload_n 0, 1) := by decide +kernel
theorem dX1_firstFailing_62 : decode cX1_firstFailing 62 = .ok (.iload_n 2, 1) := by decide +kernel
theorem dX1_firstFailing_63 : decode cX1_firstFailing 63 = .ok (.aload_n 0, 1) := by decide +kernel
theorem dX1_firstFailing_64 : decode cX1_firstFailing 64 = .ok (.getfield 9, 3) := by decide +kernel
theorem dX1_firstFailing_67 : decode cX1_firstFailing 67 = .ok (.iload_n 2, 1) := by decide +kernel
theorem dX1_firstFailing_68 : decode cX1_firstFailing 68 = .ok (.iaload, 1) := by decide +kernel
theorem dX1_firstFailing_69 : decode cX1_firstFailing 69 = .ok (.invokevirtual 108, 3) := by decide +kernel
theorem dX1_firstFailing_72 : decode cX1_firstFailing 72 = .ok (.istore_n 3, 1) := by decide +kernel
theorem dX1_firstFailing_73 : decode cX1_firstFailing 73 = .ok (.goto 58, 3) := by decide +kernel
theorem dX1_firstFailing_76 : decode cX1_firstFailing 76 = .ok (.aload_n 0, 1) := by decide +kernel
theorem dX1_firstFailing_77 : decode cX1_firstFailing 77 = .ok (.getfield 41, 3) := by decide +kernel
theorem dX1_firstFailing_80 : decode cX1_firstFailing 80 = .ok (.getfield 77, 3) := by decide +kernel
theorem dX1_firstFailing_83 : decode cX1_firstFailing 83 = .ok (.iload_n 2, 1) := by decide +kernel
theorem dX1_firstFailing_84 : decode cX1_firstFailing 84 = .ok (.iaload, 1) := by decide +kernel
theorem dX1_firstFailing_85 : decode cX1_firstFailing 85 = .ok (.iconst 1, 1) := by decide +kernel
theorem dX1_firstFailing_86 : decode cX1_firstFailing 86 = .ok (.if_icmp .ne 18, 3) := by decide +kernel
theorem dX1_firstFailing_89 : decode cX1_firstFailing 89 = .ok (.aload_n 0, 1) := by decide +kernel
theorem dX1_firstFailing_90 : decode cX1_firstFailing 90 = .ok (.iload_n 2, 1) := by decide +kernel
theorem dX1_firstFailing_91 : decode cX1_firstFailing 91 = .ok (.aload_n 0, 1) := by decide +kernel
theorem dX1_firstFailing_92 : decode cX1_firstFailing 92 = .ok (.getfield 9, 3) := by decide +kernel
theorem dX1_firstFailing_95 : decode cX1_firstFailing 95 = .ok (.iload_n 2, 1) := by decide +kernel
theorem dX1_firstFailing_96 : decode cX1_firstFailing 96 = .ok (.iaload, 1) := by decide +kernel
theorem dX1_firstFailing_97 : decode cX1_firstFailing 97 = .ok (.invokevirtual 111, 3) := by decide +kernel
theorem dX1_firstFailing_100 : decode cX1_firstFailing 100 = .ok (.istore_n 3, 1) := by decide +kernel
theorem dX1_firstFailing_101 : decode cX1_firstFailing 101 = .ok (.goto 30, 3) := by decide +kernel
theorem dX1_firstFailing_104 : decode cX1_firstFailing 104 = .ok (.aload_n 0, 1) := by decide +kernel
theorem dX1_firstFailing_105 : decode cX1_firstFailing 105 = .ok (.getfield 95, 3) := by decide +kernel
theorem dX1_firstFailing_108 : decode cX1_firstFailing 108 = .ok (.aload_n 0, 1) := by decide +kernel
theorem dX1_firstFailing_109 : decode cX1_firstFailing 109 = .ok (.getfield 37, 3) := by decide +kernel
theorem dX1_firstFailing_112 : decode cX1_firstFailing 112 = .ok (.getfield 114, 3) := by decide +kernel
theorem dX1_firstFailing_115 : decode cX1_firstFailing 115 = .ok (.aload_n 0, 1) := by decide +kernel
theorem dX1_firstFailing_116 : decode cX1_firstFailing 116 = .ok (.getfield 9, 3) := by decide +kernel
theorem dX1_firstFailing_119 : decode cX1_firstFailing 119 = .ok (.iload_n 2, 1) := by decide +kernel
theorem dX1_firstFailing_120 : decode cX1_firstFailing 120 = .ok (.iaload, 1) := by decide +kernel
theorem dX1_firstFailing_121 : decode cX1_firstFailing 121 = .ok (.iaload, 1) := by decide +kernel
theorem dX1_firstFailing_122 : decode cX1_firstFailing 122 = .ok (.if_icmp .ge 7, 3) := by decide +kernel
theorem dX1_firstFailing_125 : decode cX1_firstFailing 125 = .ok (.iconst 1, 1) := by decide +kernel
theorem dX1_firstFailing_126 : decode cX1_firstFailing 126 = .ok (.goto 4, 3) := by decide +kernel
theorem dX1_firstFailing_129 : decode cX1_firstFailing 129 = .ok (.iconst 0, 1) := by decide +kernel
theorem dX1_firstFailing_130 : decode cX1_firstFailing 130 = .ok (.istore_n 3, 1) := by decide +kernel
theorem dX1_firstFailing_131 : decode cX1_firstFailing 131 = .ok (.iload_n 3, 1) := by decide +kernel
theorem dX1_firstFailing_132 : decode cX1_firstFailing 132 = .ok (.ifCond .ne 5, 3) := by decide +kernel
theorem dX1_firstFailing_135 : decode cX1_firstFailing 135 = .ok (.iload_n 2, 1) := by decide +kernel
theorem dX1_firstFailing_136 : decode cX1_firstFailing 136 = .ok (.ireturn, 1) := by decide +kernel
theorem dX1_firstFailing_137 : decode cX1_firstFailing 137 = .ok (.iinc 2 1, 3) := by decide +kernel
theorem dX1_firstFailing_140 : decode cX1_firstFailing 140 = .ok (.goto (-138), 3) := by decide +kernel
theorem dX1_firstFailing_143 : decode cX1_firstFailing 143 = .ok (.aload_n 0, 1) := by decide +kernel
theorem dX1_firstFailing_144 : decode cX1_firstFailing 144 = .ok (.getfield 41, 3) := by decide +kernel
theorem dX1_firstFailing_147 : decode cX1_firstFailing 147 = .ok (.getfield 60, 3) := by decide +kernel
theorem dX1_firstFailing_150 : decode cX1_firstFailing 150 = .ok (.ireturn, 1) := by decide +kernel
theorem dX1_seatPiece_0 : decode cX1_seatPiece 0 = .ok (.iload_n 1, 1) := by decide +kernel
theorem dX1_seatPiece_1 : decode cX1_seatPiece 1 = .ok (.ifCond .ne 7, 3) := by decide +kernel
theorem dX1_seatPiece_4 : decode cX1_seatPiece 4 = .ok (.iload_n 2, 1) := by decide +kernel
theorem dX1_seatPiece_5 : decode cX1_seatPiece 5 = .ok (.goto 16, 3) := by decide +kernel
theorem dX1_seatPiece_8 : decode cX1_seatPiece 8 = .ok (.aload_n 0, 1) := by decide +kernel
theorem dX1_seatPiece_9 : decode cX1_seatPiece 9 = .ok (.aload_n 0, 1) := by decide +kernel
theorem dX1_seatPiece_10 : decode cX1_seatPiece 10 = .ok (.getfield 41, 3) := by decide +kernel
theorem dX1_seatPiece_13 : decode cX1_seatPiece 13 = .ok (.getfield 80, 3) := by decide +kernel
theorem dX1_seatPiece_16 : decode cX1_seatPiece 16 = .ok (.iload_n 1, 1) := by decide +kernel
theorem dX1_seatPiece_17 : decode cX1_seatPiece 17 = .ok (.iaload, 1) := by decide +kernel
theorem dX1_seatPiece_18 : decode cX1_seatPiece 18 = .ok (.invokevirtual 117, 3) := by decide +kernel
theorem dX1_seatPiece_21 : decode cX1_seatPiece 21 = .ok (.istore_n 3, 1) := by decide +kernel
theorem dX1_seatPiece_22 : decode cX1_seatPiece 22 = .ok (.aload_n 0, 1) := by decide +kernel
theorem dX1_seatPiece_23 : decode cX1_seatPiece 23 = .ok (.getfield 9, 3) := by decide +kernel
theorem dX1_seatPiece_26 : decode cX1_seatPiece 26 = .ok (.iload_n 1, 1) := by decide +kernel
theorem dX1_seatPiece_27 : decode cX1_seatPiece 27 = .ok (.iload_n 3, 1) := by decide +kernel
theorem dX1_seatPiece_28 : decode cX1_seatPiece 28 = .ok (.iastore, 1) := by decide +kernel
theorem dX1_seatPiece_29 : decode cX1_seatPiece 29 = .ok (.aload_n 0, 1) := by decide +kernel
theorem dX1_seatPiece_30 : decode cX1_seatPiece 30 = .ok (.getfield 15, 3) := by decide +kernel
theorem dX1_seatPiece_33 : decode cX1_seatPiece 33 = .ok (.iload_n 1, 1) := by decide +kernel
theorem dX1_seatPiece_34 : decode cX1_seatPiece 34 = .ok (.iconst 1, 1) := by decide +kernel
theorem dX1_seatPiece_35 : decode cX1_seatPiece 35 = .ok (.iastore, 1) := by decide +kernel
theorem dX1_seatPiece_36 : decode cX1_seatPiece 36 = .ok (.iload_n 3, 1) := by decide +kernel
theorem dX1_seatPiece_37 : decode cX1_seatPiece 37 = .ok (.ifCond .lt 18, 3) := by decide +kernel
theorem dX1_seatPiece_40 : decode cX1_seatPiece 40 = .ok (.iload_n 3, 1) := by decide +kernel
theorem dX1_seatPiece_41 : decode cX1_seatPiece 41 = .ok (.aload_n 0, 1) := by decide +kernel
theorem dX1_seatPiece_42 : decode cX1_seatPiece 42 = .ok (.getfield 37, 3) := by decide +kernel
theorem dX1_seatPiece_45 : decode cX1_seatPiece 45 = .ok (.getfield 60, 3) := by decide +kernel
theorem dX1_seatPiece_48 : decode cX1_seatPiece 48 = .ok (.if_icmp .ge 7, 3) := by decide +kernel
theorem dX1_seatPiece_51 : decode cX1_seatPiece 51 = .ok (.iconst 1, 1) := by decide +kernel
theorem dX1_seatPiece_52 : decode cX1_seatPiece 52 = .ok (.goto 4, 3) := by decide +kernel
theorem dX1_seatPiece_55 : decode cX1_seatPiece 55 = .ok (.iconst 0, 1) := by decide +kernel
theorem dX1_seatPiece_56 : decode cX1_seatPiece 56 = .ok (.ireturn, 1) := by decide +kernel
theorem dX1_nextNode_0 : decode cX1_nextNode 0 = .ok (.iload_n 1, 1) := by decide +kernel
theorem dX1_nextNode_1 : decode cX1_nextNode 1 = .ok (.ifCond .ge 5, 3) := by decide +kernel
theorem dX1_nextNode_4 : decode cX1_nextNode 4 = .ok (.iconst (-1), 1) := by decide +kernel
theorem dX1_nextNode_5 : decode cX1_nextNode 5 = .ok (.ireturn, 1) := by decide +kernel
theorem dX1_nextNode_6 : decode cX1_nextNode 6 = .ok (.aload_n 0, 1) := by decide +kernel
theorem dX1_nextNode_7 : decode cX1_nextNode 7 = .ok (.getfield 41, 3) := by decide +kernel
theorem dX1_nextNode_10 : decode cX1_nextNode 10 = .ok (.getfield 77, 3) := by decide +kernel
theorem dX1_nextNode_13 : decode cX1_nextNode 13 = .ok (.iload_n 1, 1) := by decide +kernel
theorem dX1_nextNode_14 : decode cX1_nextNode 14 = .ok (.iaload, 1) := by decide +kernel
theorem dX1_nextNode_15 : decode cX1_nextNode 15 = .ok (.iconst 3, 1) := by decide +kernel
theorem dX1_nextNode_16 : decode cX1_nextNode 16 = .ok (.if_icmp .ne 15, 3) := by decide +kernel
theorem dX1_nextNode_19 : decode cX1_nextNode 19 = .ok (.aload_n 0, 1) := by decide +kernel
theorem dX1_nextNode_20 : decode cX1_nextNode 20 = .ok (.getfield 9, 3) := by decide +kernel
theorem dX1_nextNode_23 : decode cX1_nextNode 23 = .ok (.iload_n 1, 1) := by decide +kernel
theorem dX1_nextNode_24 : decode cX1_nextNode 24 = .ok (.iaload, 1) := by decide +kernel
theorem dX1_nextNode_25 : decode cX1_nextNode 25 = .ok (.aload_n 0, 1) := by decide +kernel
theorem dX1_nextNode_26 : decode cX1_nextNode 26 = .ok (.getfield 95, 3) := by decide +kernel
theorem dX1_nextNode_29 : decode cX1_nextNode 29 = .ok (.iadd, 1) := by decide +kernel
theorem dX1_nextNode_30 : decode cX1_nextNode 30 = .ok (.ireturn, 1) := by decide +kernel
theorem dX1_nextNode_31 : decode cX1_nextNode 31 = .ok (.aload_n 0, 1) := by decide +kernel
theorem dX1_nextNode_32 : decode cX1_nextNode 32 = .ok (.getfield 18, 3) := by decide +kernel
theorem dX1_nextNode_35 : decode cX1_nextNode 35 = .ok (.iload_n 1, 1) := by decide +kernel
theorem dX1_nextNode_36 : decode cX1_nextNode 36 = .ok (.iaload, 1) := by decide +kernel
theorem dX1_nextNode_37 : decode cX1_nextNode 37 = .ok (.istore_n 2, 1) := by decide +kernel
theorem dX1_nextNode_38 : decode cX1_nextNode 38 = .ok (.aload_n 0, 1) := by decide +kernel
theorem dX1_nextNode_39 : decode cX1_nextNode 39 = .ok (.getfield 21, 3) := by decide +kernel
theorem dX1_nextNode_42 : decode cX1_nextNode 42 = .ok (.iload_n 1, 1) := by decide +kernel
theorem dX1_nextNode_43 : decode cX1_nextNode 43 = .ok (.iaload, 1) := by decide +kernel
theorem dX1_nextNode_44 : decode cX1_nextNode 44 = .ok (.ifCond .le 18, 3) := by decide +kernel
theorem dX1_nextNode_47 : decode cX1_nextNode 47 = .ok (.iload_n 2, 1) := by decide +kernel
theorem dX1_nextNode_48 : decode cX1_nextNode 48 = .ok (.ifCond .lt 14, 3) := by decide +kernel
theorem dX1_nextNode_51 : decode cX1_nextNode 51 = .ok (.iload_n 2, 1) := by decide +kernel
theorem dX1_nextNode_52 : decode cX1_nextNode 52 = .ok (.aload_n 0, 1) := by decide +kernel
theorem dX1_nextNode_53 : decode cX1_nextNode 53 = .ok (.getfield 37, 3) := by decide +kernel
theorem dX1_nextNode_56 : decode cX1_nextNode 56 = .ok (.getfield 60, 3) := by decide +kernel
theorem dX1_nextNode_59 : decode cX1_nextNode 59 = .ok (.if_icmp .lt 5, 3) := by decide +kernel
theorem dX1_nextNode_62 : decode cX1_nextNode 62 = .ok (.iconst (-1), 1) := by decide +kernel
theorem dX1_nextNode_63 : decode cX1_nextNode 63 = .ok (.ireturn, 1) := by decide +kernel
theorem dX1_nextNode_64 : decode cX1_nextNode 64 = .ok (.aload_n 0, 1) := by decide +kernel
theorem dX1_nextNode_65 : decode cX1_nextNode 65 = .ok (.getfield 18, 3) := by decide +kernel
theorem dX1_nextNode_68 : decode cX1_nextNode 68 = .ok (.iload_n 1, 1) := by decide +kernel
theorem dX1_nextNode_69 : decode cX1_nextNode 69 = .ok (.iload_n 2, 1) := by decide +kernel
theorem dX1_nextNode_70 : decode cX1_nextNode 70 = .ok (.aload_n 0, 1) := by decide +kernel
theorem dX1_nextNode_71 : decode cX1_nextNode 71 = .ok (.getfield 37, 3) := by decide +kernel
theorem dX1_nextNode_74 : decode cX1_nextNode 74 = .ok (.getfield 114, 3) := by decide +kernel
theorem dX1_nextNode_77 : decode cX1_nextNode 77 = .ok (.iload_n 2, 1) := by decide +kernel
theorem dX1_nextNode_78 : decode cX1_nextNode 78 = .ok (.iaload, 1) := by decide +kernel
theorem dX1_nextNode_79 : decode cX1_nextNode 79 = .ok (.iadd, 1) := by decide +kernel
theorem dX1_nextNode_80 : decode cX1_nextNode 80 = .ok (.iastore, 1) := by decide +kernel
theorem dX1_nextNode_81 : decode cX1_nextNode 81 = .ok (.aload_n 0, 1) := by decide +kernel
theorem dX1_nextNode_82 : decode cX1_nextNode 82 = .ok (.getfield 21, 3) := by decide +kernel
theorem dX1_nextNode_85 : decode cX1_nextNode 85 = .ok (.iload_n 1, 1) := by decide +kernel
theorem dX1_nextNode_86 : decode cX1_nextNode 86 = .ok (.dup2, 1) := by decide +kernel
theorem dX1_nextNode_87 : decode cX1_nextNode 87 = .ok (.iaload, 1) := by decide +kernel
theorem dX1_nextNode_88 : decode cX1_nextNode 88 = .ok (.iconst 1, 1) := by decide +kernel
theorem dX1_nextNode_89 : decode cX1_nextNode 89 = .ok (.isub, 1) := by decide +kernel
theorem dX1_nextNode_90 : decode cX1_nextNode 90 = .ok (.iastore, 1) := by decide +kernel
theorem dX1_nextNode_91 : decode cX1_nextNode 91 = .ok (.iload_n 2, 1) := by decide +kernel
theorem dX1_nextNode_92 : decode cX1_nextNode 92 = .ok (.ireturn, 1) := by decide +kernel
theorem dX1_termFits_0 : decode cX1_termFits 0 = .ok (.aload_n 0, 1) := by decide +kernel
theorem dX1_termFits_1 : decode cX1_termFits 1 = .ok (.getfield 37, 3) := by decide +kernel
theorem dX1_termFits_4 : decode cX1_termFits 4 = .ok (.getfield 120, 3) := by decide +kernel
theorem dX1_termFits_7 : decode cX1_termFits 7 = .ok (.iload_n 2, 1) := by decide +kernel
theorem dX1_termFits_8 : decode cX1_termFits 8 = .ok (.iaload, 1) := by decide +kernel
theorem dX1_termFits_9 : decode cX1_termFits 9 = .ok (.istore_n 3, 1) := by decide +kernel
theorem dX1_termFits_10 : decode cX1_termFits 10 = .ok (.aload_n 0, 1) := by decide +kernel
theorem dX1_termFits_11 : decode cX1_termFits 11 = .ok (.getfield 41, 3) := by decide +kernel
theorem dX1_termFits_14 : decode cX1_termFits 14 = .ok (.getfield 120, 3) := by decide +kernel
theorem dX1_termFits_17 : decode cX1_termFits 17 = .ok (.iload_n 1, 1) := by decide +kernel
theorem dX1_termFits_18 : decode cX1_termFits 18 = .ok (.iaload, 1) := by decide +kernel
theorem dX1_termFits_19 : decode cX1_termFits 19 = .ok (.istore 4, 2) := by decide +kernel
theorem dX1_termFits_21 : decode cX1_termFits 21 = .ok (.aload_n 0, 1) := by decide +kernel
theorem dX1_termFits_22 : decode cX1_termFits 22 = .ok (.getfield 37, 3) := by decide +kernel
theorem dX1_termFits_25 : decode cX1_termFits 25 = .ok (.iload_n 2, 1) := by decide +kernel
theorem dX1_termFits_26 : decode cX1_termFits 26 = .ok (.aload_n 0, 1) := by decide +kernel
theorem dX1_termFits_27 : decode cX1_termFits 27 = .ok (.getfield 41, 3) := by decide +kernel
theorem dX1_termFits_30 : decode cX1_termFits 30 = .ok (.iload_n 1, 1) := by decide +kernel
theorem dX1_termFits_31 : decode cX1_termFits 31 = .ok (.invokestatic 123, 3) := by decide +kernel
theorem dX1_termFits_34 : decode cX1_termFits 34 = .ok (.ifCond .ne 5, 3) := by decide +kernel
theorem dX1_termFits_37 : decode cX1_termFits 37 = .ok (.iconst 0, 1) := by decide +kernel
theorem dX1_termFits_38 : decode cX1_termFits 38 = .ok (.ireturn, 1) := by decide +kernel
theorem dX1_termFits_39 : decode cX1_termFits 39 = .ok (.iload_n 3, 1) := by decide +kernel
theorem dX1_termFits_40 : decode cX1_termFits 40 = .ok (.iconst (-1), 1) := by decide +kernel
theorem dX1_termFits_41 : decode cX1_termFits 41 = .ok (.if_icmp .eq 9, 3) := by decide +kernel
theorem dX1_termFits_44 : decode cX1_termFits 44 = .ok (.iload 4, 2) := by decide +kernel
theorem dX1_termFits_46 : decode cX1_termFits 46 = .ok (.iconst (-1), 1) := by decide +kernel
theorem dX1_termFits_47 : decode cX1_termFits 47 = .ok (.if_icmp .ne 15, 3) := by decide +kernel
theorem dX1_termFits_50 : decode cX1_termFits 50 = .ok (.iload_n 3, 1) := by decide +kernel
theorem dX1_termFits_51 : decode cX1_termFits 51 = .ok (.iload 4, 2) := by decide +kernel
theorem dX1_termFits_53 : decode cX1_termFits 53 = .ok (.if_icmp .ne 7, 3) := by decide +kernel
theorem dX1_termFits_56 : decode cX1_termFits 56 = .ok (.iconst 1, 1) := by decide +kernel
theorem dX1_termFits_57 : decode cX1_termFits 57 = .ok (.goto 4, 3) := by decide +kernel
theorem dX1_termFits_60 : decode cX1_termFits 60 = .ok (.iconst 0, 1) := by decide +kernel
theorem dX1_termFits_61 : decode cX1_termFits 61 = .ok (.ireturn, 1) := by decide +kernel
theorem dX1_termFits_62 : decode cX1_termFits 62 = .ok (.aload_n 0, 1) := by decide +kernel
theorem dX1_termFits_63 : decode cX1_termFits 63 = .ok (.getfield 18, 3) := by decide +kernel
theorem dX1_termFits_66 : decode cX1_termFits 66 = .ok (.iload_n 1, 1) := by decide +kernel
theorem dX1_termFits_67 : decode cX1_termFits 67 = .ok (.iload_n 2, 1) := by decide +kernel
theorem dX1_termFits_68 : decode cX1_termFits 68 = .ok (.iconst 1, 1) := by decide +kernel
theorem dX1_termFits_69 : decode cX1_termFits 69 = .ok (.iadd, 1) := by decide +kernel
theorem dX1_termFits_70 : decode cX1_termFits 70 = .ok (.iastore, 1) := by decide +kernel
theorem dX1_termFits_71 : decode cX1_termFits 71 = .ok (.aload_n 0, 1) := by decide +kernel
theorem dX1_termFits_72 : decode cX1_termFits 72 = .ok (.getfield 21, 3) := by decide +kernel
theorem dX1_termFits_75 : decode cX1_termFits 75 = .ok (.iload_n 1, 1) := by decide +kernel
theorem dX1_termFits_76 : decode cX1_termFits 76 = .ok (.iload_n 3, 1) := by decide +kernel
theorem dX1_termFits_77 : decode cX1_termFits 77 = .ok (.iastore, 1) := by decide +kernel
theorem dX1_termFits_78 : decode cX1_termFits 78 = .ok (.aload_n 0, 1) := by decide +kernel
theorem dX1_termFits_79 : decode cX1_termFits 79 = .ok (.getfield 24, 3) := by decide +kernel
theorem dX1_termFits_82 : decode cX1_termFits 82 = .ok (.iload_n 1, 1) := by decide +kernel
theorem dX1_termFits_83 : decode cX1_termFits 83 = .ok (.iaload, 1) := by decide +kernel
theorem dX1_termFits_84 : decode cX1_termFits 84 = .ok (.iload 4, 2) := by decide +kernel
theorem dX1_termFits_86 : decode cX1_termFits 86 = .ok (.if_icmp .ge 7, 3) := by decide +kernel
theorem dX1_termFits_89 : decode cX1_termFits 89 = .ok (.iconst 1, 1) := by decide +kernel
theorem dX1_termFits_90 : decode cX1_termFits 90 = .ok (.goto 4, 3) := by decide +kernel
theorem dX1_termFits_93 : decode cX1_termFits 93 = .ok (.iconst 0, 1) := by decide +kernel
theorem dX1_termFits_94 : decode cX1_termFits 94 = .ok (.istore 5, 2) := by decide +kernel
theorem dX1_termFits_96 : decode cX1_termFits 96 = .ok (.iload 5, 2) := by decide +kernel
theorem dX1_termFits_98 : decode cX1_termFits 98 = .ok (.ifCond .eq 21, 3) := by decide +kernel
theorem dX1_termFits_101 : decode cX1_termFits 101 = .ok (.iload_n 3, 1) := by decide +kernel
theorem dX1_termFits_102 : decode cX1_termFits 102 = .ok (.aload_n 0, 1) := by decide +kernel
theorem dX1_termFits_103 : decode cX1_termFits 103 = .ok (.getfield 24, 3) := by decide +kernel
theorem dX1_termFits_106 : decode cX1_termFits 106 = .ok (.iload_n 1, 1) := by decide +kernel
theorem dX1_termFits_107 : decode cX1_termFits 107 = .ok (.iaload, 1) := by decide +kernel
theorem dX1_termFits_108 : decode cX1_termFits 108 = .ok (.if_icmp .lt 7, 3) := by decide +kernel
theorem dX1_termFits_111 : decode cX1_termFits 111 = .ok (.iconst 1, 1) := by decide +kernel
theorem dX1_termFits_112 : decode cX1_termFits 112 = .ok (.goto 18, 3) := by decide +kernel
theorem dX1_termFits_115 : decode cX1_termFits 115 = .ok (.iconst 0, 1) := by decide +kernel
theorem dX1_termFits_116 : decode cX1_termFits 116 = .ok (.goto 14, 3) := by decide +kernel
theorem dX1_termFits_119 : decode cX1_termFits 119 = .ok (.iload_n 3, 1) := by decide +kernel
theorem dX1_termFits_120 : decode cX1_termFits 120 = .ok (.iload 4, 2) := by decide +kernel
theorem dX1_termFits_122 : decode cX1_termFits 122 = .ok (.if_icmp .ne 7, 3) := by decide +kernel
theorem dX1_termFits_125 : decode cX1_termFits 125 = .ok (.iconst 1, 1) := by decide +kernel
theorem dX1_termFits_126 : decode cX1_termFits 126 = .ok (.goto 4, 3) := by decide +kernel
theorem dX1_termFits_129 : decode cX1_termFits 129 = .ok (.iconst 0, 1) := by decide +kernel
theorem dX1_termFits_130 : decode cX1_termFits 130 = .ok (.ireturn, 1) := by decide +kernel
theorem dX1_holeFits_0 : decode cX1_holeFits 0 = .ok (.aload_n 0, 1) := by decide +kernel
theorem dX1_holeFits_1 : decode cX1_holeFits 1 = .ok (.getfield 41, 3) := by decide +kernel
theorem dX1_holeFits_4 : decode cX1_holeFits 4 = .ok (.getfield 127, 3) := by decide +kernel
theorem dX1_holeFits_7 : decode cX1_holeFits 7 = .ok (.iload_n 1, 1) := by decide +kernel
theorem dX1_holeFits_8 : decode cX1_holeFits 8 = .ok (.iaload, 1) := by decide +kernel
theorem dX1_holeFits_9 : decode cX1_holeFits 9 = .ok (.istore_n 3, 1) := by decide +kernel
theorem dX1_holeFits_10 : decode cX1_holeFits 10 = .ok (.aload_n 0, 1) := by decide +kernel
theorem dX1_holeFits_11 : decode cX1_holeFits 11 = .ok (.getfield 41, 3) := by decide +kernel
theorem dX1_holeFits_14 : decode cX1_holeFits 14 = .ok (.getfield 55, 3) := by decide +kernel
theorem dX1_holeFits_17 : decode cX1_holeFits 17 = .ok (.iload_n 3, 1) := by decide +kernel
theorem dX1_holeFits_18 : decode cX1_holeFits 18 = .ok (.iaload, 1) := by decide +kernel
theorem dX1_holeFits_19 : decode cX1_holeFits 19 = .ok (.istore 4, 2) := by decide +kernel
theorem dX1_holeFits_21 : decode cX1_holeFits 21 = .ok (.iload 4, 2) := by decide +kernel
theorem dX1_holeFits_23 : decode cX1_holeFits 23 = .ok (.iload_n 1, 1) := by decide +kernel
theorem dX1_holeFits_24 : decode cX1_holeFits 24 = .ok (.if_icmp .eq 36, 3) := by decide +kernel
theorem dX1_holeFits_27 : decode cX1_holeFits 27 = .ok (.aload_n 0, 1) := by decide +kernel
theorem dX1_holeFits_28 : decode cX1_holeFits 28 = .ok (.getfield 37, 3) := by decide +kernel
theorem dX1_holeFits_31 : decode cX1_holeFits 31 = .ok (.getfield 130, 3) := by decide +kernel
theorem dX1_holeFits_34 : decode cX1_holeFits 34 = .ok (.aload_n 0, 1) := by decide +kernel
theorem dX1_holeFits_35 : decode cX1_holeFits 35 = .ok (.getfield 9, 3) := by decide +kernel
theorem dX1_holeFits_38 : decode cX1_holeFits 38 = .ok (.iload 4, 2) := by decide +kernel
theorem dX1_holeFits_40 : decode cX1_holeFits 40 = .ok (.iaload, 1) := by decide +kernel
theorem dX1_holeFits_41 : decode cX1_holeFits 41 = .ok (.iaload, 1) := by decide +kernel
theorem dX1_holeFits_42 : decode cX1_holeFits 42 = .ok (.aload_n 0, 1) := by decide +kernel
theorem dX1_holeFits_43 : decode cX1_holeFits 43 = .ok (.getfield 37, 3) := by decide +kernel
theorem dX1_holeFits_46 : decode cX1_holeFits 46 = .ok (.getfield 130, 3) := by decide +kernel
theorem dX1_holeFits_49 : decode cX1_holeFits 49 = .ok (.iload_n 2, 1) := by decide +kernel
theorem dX1_holeFits_50 : decode cX1_holeFits 50 = .ok (.iaload, 1) := by decide +kernel
theorem dX1_holeFits_51 : decode cX1_holeFits 51 = .ok (.if_icmp .ne 7, 3) := by decide +kernel
theorem dX1_holeFits_54 : decode cX1_holeFits 54 = .ok (.iconst 1, 1) := by decide +kernel
theorem dX1_holeFits_55 : decode cX1_holeFits 55 = .ok (.goto 4, 3) := by decide +kernel
theorem dX1_holeFits_58 : decode cX1_holeFits 58 = .ok (.iconst 0, 1) := by decide +kernel
theorem dX1_holeFits_59 : decode cX1_holeFits 59 = .ok (.ireturn, 1) := by decide +kernel
theorem dX1_holeFits_60 : decode cX1_holeFits 60 = .ok (.aload_n 0, 1) := by decide +kernel
theorem dX1_holeFits_61 : decode cX1_holeFits 61 = .ok (.getfield 27, 3) := by decide +kernel
theorem dX1_holeFits_64 : decode cX1_holeFits 64 = .ok (.iload_n 3, 1) := by decide +kernel
theorem dX1_holeFits_65 : decode cX1_holeFits 65 = .ok (.iaload, 1) := by decide +kernel
theorem dX1_holeFits_66 : decode cX1_holeFits 66 = .ok (.ifCond .ne 5, 3) := by decide +kernel
theorem dX1_holeFits_69 : decode cX1_holeFits 69 = .ok (.iconst 1, 1) := by decide +kernel
theorem dX1_holeFits_70 : decode cX1_holeFits 70 = .ok (.ireturn, 1) := by decide +kernel
theorem dX1_holeFits_71 : decode cX1_holeFits 71 = .ok (.iconst 0, 1) := by decide +kernel
theorem dX1_holeFits_72 : decode cX1_holeFits 72 = .ok (.istore 5, 2) := by decide +kernel
theorem dX1_holeFits_74 : decode cX1_holeFits 74 = .ok (.iload 5, 2) := by decide +kernel
theorem dX1_holeFits_76 : decode cX1_holeFits 76 = .ok (.bipush 26, 2) := by decide +kernel
theorem dX1_holeFits_78 : decode cX1_holeFits 78 = .ok (.if_icmp .ge 86, 3) := by decide +kernel
theorem dX1_holeFits_81 : decode cX1_holeFits 81 = .ok (.aload_n 0, 1) := by decide +kernel
theorem dX1_holeFits_82 : decode cX1_holeFits 82 = .ok (.getfield 41, 3) := by decide +kernel
theorem dX1_holeFits_85 : decode cX1_holeFits 85 = .ok (.getfield 55, 3) := by decide +kernel
theorem dX1_holeFits_88 : decode cX1_holeFits 88 = .ok (.iload 5, 2) := by decide +kernel
theorem dX1_holeFits_90 : decode cX1_holeFits 90 = .ok (.iaload, 1) := by decide +kernel
theorem dX1_holeFits_91 : decode cX1_holeFits 91 = .ok (.istore 6, 2) := by decide +kernel
theorem dX1_holeFits_93 : decode cX1_holeFits 93 = .ok (.aload_n 0, 1) := by decide +kernel
theorem dX1_holeFits_94 : decode cX1_holeFits 94 = .ok (.iload_n 3, 1) := by decide +kernel
theorem dX1_holeFits_95 : decode cX1_holeFits 95 = .ok (.iload 5, 2) := by decide +kernel
theorem dX1_holeFits_97 : decode cX1_holeFits 97 = .ok (.invokevirtual 133, 3) := by decide +kernel
theorem dX1_holeFits_100 : decode cX1_holeFits 100 = .ok (.ifCond .eq 58, 3) := by decide +kernel
theorem dX1_holeFits_103 : decode cX1_holeFits 103 = .ok (.iload 6, 2) := by decide +kernel
theorem dX1_holeFits_105 : decode cX1_holeFits 105 = .ok (.iconst (-1), 1) := by decide +kernel
theorem dX1_holeFits_106 : decode cX1_holeFits 106 = .ok (.if_icmp .eq 52, 3) := by decide +kernel
theorem dX1_holeFits_109 : decode cX1_holeFits 109 = .ok (.iload 6, 2) := by decide +kernel
theorem dX1_holeFits_111 : decode cX1_holeFits 111 = .ok (.iload_n 1, 1) := by decide +kernel
theorem dX1_holeFits_112 : decode cX1_holeFits 112 = .ok (.if_icmp .ge 46, 3) := by decide +kernel
theorem dX1_holeFits_115 : decode cX1_holeFits 115 = .ok (.aload_n 0, 1) := by decide +kernel
theorem dX1_holeFits_116 : decode cX1_holeFits 116 = .ok (.getfield 41, 3) := by decide +kernel
theorem dX1_holeFits_119 : decode cX1_holeFits 119 = .ok (.getfield 77, 3) := by decide +kernel
theorem dX1_holeFits_122 : decode cX1_holeFits 122 = .ok (.iload 6, 2) := by decide +kernel
theorem dX1_holeFits_124 : decode cX1_holeFits 124 = .ok (.iaload, 1) := by decide +kernel
theorem dX1_holeFits_125 : decode cX1_holeFits 125 = .ok (.iconst 1, 1) := by decide +kernel
theorem dX1_holeFits_126 : decode cX1_holeFits 126 = .ok (.if_icmp .ne 32, 3) := by decide +kernel
theorem dX1_holeFits_129 : decode cX1_holeFits 129 = .ok (.aload_n 0, 1) := by decide +kernel
theorem dX1_holeFits_130 : decode cX1_holeFits 130 = .ok (.getfield 37, 3) := by decide +kernel
theorem dX1_holeFits_133 : decode cX1_holeFits 133 = .ok (.getfield 130, 3) := by decide +kernel
theorem dX1_holeFits_136 : decode cX1_holeFits 136 = .ok (.aload_n 0, 1) := by decide +kernel
theorem dX1_holeFits_137 : decode cX1_holeFits 137 = .ok (.getfield 9, 3) := by decide +kernel
theorem dX1_holeFits_140 : decode cX1_holeFits 140 = .ok (.iload 6, 2) := by decide +kernel
theorem dX1_holeFits_142 : decode cX1_holeFits 142 = .ok (.iaload, 1) := by decide +kernel
theorem dX1_holeFits_143 : decode cX1_holeFits 143 = .ok (.iaload, 1) := by decide +kernel
theorem dX1_holeFits_144 : decode cX1_holeFits 144 = .ok (.aload_n 0, 1) := by decide +kernel
theorem dX1_holeFits_145 : decode cX1_holeFits 145 = .ok (.getfield 37, 3) := by decide +kernel
theorem dX1_holeFits_148 : decode cX1_holeFits 148 = .ok (.getfield 130, 3) := by decide +kernel
theorem dX1_holeFits_151 : decode cX1_holeFits 151 = .ok (.iload_n 2, 1) := by decide +kernel
theorem dX1_holeFits_152 : decode cX1_holeFits 152 = .ok (.iaload, 1) := by decide +kernel
theorem dX1_holeFits_153 : decode cX1_holeFits 153 = .ok (.if_icmp .ne 5, 3) := by decide +kernel
theorem dX1_holeFits_156 : decode cX1_holeFits 156 = .ok (.iconst 0, 1) := by decide +kernel
theorem dX1_holeFits_157 : decode cX1_holeFits 157 = .ok (.ireturn, 1) := by decide +kernel
theorem dX1_holeFits_158 : decode cX1_holeFits 158 = .ok (.iinc 5 1, 3) := by decide +kernel
theorem dX1_holeFits_161 : decode cX1_holeFits 161 = .ok (.goto (-87), 3) := by decide +kernel
theorem dX1_holeFits_164 : decode cX1_holeFits 164 = .ok (.iconst 1, 1) := by decide +kernel
theorem dX1_holeFits_165 : decode cX1_holeFits 165 = .ok (.ireturn, 1) := by decide +kernel
theorem dX1_rowFits_0 : decode cX1_rowFits 0 = .ok (.aload_n 0, 1) := by decide +kernel
theorem dX1_rowFits_1 : decode cX1_rowFits 1 = .ok (.getfield 41, 3) := by decide +kernel
theorem dX1_rowFits_4 : decode cX1_rowFits 4 = .ok (.getfield 80, 3) := by decide +kernel
theorem dX1_rowFits_7 : decode cX1_rowFits 7 = .ok (.iload_n 1, 1) := by decide +kernel
theorem dX1_rowFits_8 : decode cX1_rowFits 8 = .ok (.iaload, 1) := by decide +kernel
theorem dX1_rowFits_9 : decode cX1_rowFits 9 = .ok (.istore_n 2, 1) := by decide +kernel
end
section
theorem dX1_rowFits_10 : decode cX1_rowFits 10 = .ok (.iload_n 2, 1) := by decide +kernel
theorem dX1_rowFits_11 : decode cX1_rowFits 11 = .ok (.ifCond .ge 5, 3) := by decide +kernel
theorem dX1_rowFits_14 : decode cX1_rowFits 14 = .ok (.iconst 0, 1) := by decide +kernel
theorem dX1_rowFits_15 : decode cX1_rowFits 15 = .ok (.ireturn, 1) := by decide +kernel
theorem dX1_rowFits_16 : decode cX1_rowFits 16 = .ok (.aload_n 0, 1) := by decide +kernel
theorem dX1_rowFits_17 : decode cX1_rowFits 17 = .ok (.getfield 21, 3) := by decide +kernel
theorem dX1_rowFits_20 : decode cX1_rowFits 20 = .ok (.iload_n 2, 1) := by decide +kernel
theorem dX1_rowFits_21 : decode cX1_rowFits 21 = .ok (.iaload, 1) := by decide +kernel
theorem dX1_rowFits_22 : decode cX1_rowFits 22 = .ok (.aload_n 0, 1) := by decide +kernel
theorem dX1_rowFits_23 : decode cX1_rowFits 23 = .ok (.getfield 24, 3) := by decide +kernel
theorem dX1_rowFits_26 : decode cX1_rowFits 26 = .ok (.iload_n 1, 1) := by decide +kernel
theorem dX1_rowFits_27 : decode cX1_rowFits 27 = .ok (.iaload, 1) := by decide +kernel
theorem dX1_rowFits_28 : decode cX1_rowFits 28 = .ok (.isub, 1) := by decide +kernel
theorem dX1_rowFits_29 : decode cX1_rowFits 29 = .ok (.istore_n 3, 1) := by decide +kernel
theorem dX1_rowFits_30 : decode cX1_rowFits 30 = .ok (.iload_n 1, 1) := by decide +kernel
theorem dX1_rowFits_31 : decode cX1_rowFits 31 = .ok (.aload_n 0, 1) := by decide +kernel
theorem dX1_rowFits_32 : decode cX1_rowFits 32 = .ok (.getfield 67, 3) := by decide +kernel
theorem dX1_rowFits_35 : decode cX1_rowFits 35 = .ok (.if_icmp .ne 10, 3) := by decide +kernel
theorem dX1_rowFits_38 : decode cX1_rowFits 38 = .ok (.aload_n 0, 1) := by decide +kernel
theorem dX1_rowFits_39 : decode cX1_rowFits 39 = .ok (.getfield 92, 3) := by decide +kernel
theorem dX1_rowFits_42 : decode cX1_rowFits 42 = .ok (.goto 4, 3) := by decide +kernel
theorem dX1_rowFits_45 : decode cX1_rowFits 45 = .ok (.iload_n 3, 1) := by decide +kernel
theorem dX1_rowFits_46 : decode cX1_rowFits 46 = .ok (.istore 4, 2) := by decide +kernel
theorem dX1_rowFits_48 : decode cX1_rowFits 48 = .ok (.iload 4, 2) := by decide +kernel
theorem dX1_rowFits_50 : decode cX1_rowFits 50 = .ok (.ifCond .lt 9, 3) := by decide +kernel
theorem dX1_rowFits_53 : decode cX1_rowFits 53 = .ok (.iload 4, 2) := by decide +kernel
theorem dX1_rowFits_55 : decode cX1_rowFits 55 = .ok (.iload_n 3, 1) := by decide +kernel
theorem dX1_rowFits_56 : decode cX1_rowFits 56 = .ok (.if_icmp .le 5, 3) := by decide +kernel
theorem dX1_rowFits_59 : decode cX1_rowFits 59 = .ok (.iconst 0, 1) := by decide +kernel
theorem dX1_rowFits_60 : decode cX1_rowFits 60 = .ok (.ireturn, 1) := by decide +kernel
theorem dX1_rowFits_61 : decode cX1_rowFits 61 = .ok (.aload_n 0, 1) := by decide +kernel
theorem dX1_rowFits_62 : decode cX1_rowFits 62 = .ok (.getfield 9, 3) := by decide +kernel
theorem dX1_rowFits_65 : decode cX1_rowFits 65 = .ok (.iload_n 1, 1) := by decide +kernel
theorem dX1_rowFits_66 : decode cX1_rowFits 66 = .ok (.iload 4, 2) := by decide +kernel
theorem dX1_rowFits_68 : decode cX1_rowFits 68 = .ok (.ifCond .ne 7, 3) := by decide +kernel
theorem dX1_rowFits_71 : decode cX1_rowFits 71 = .ok (.iconst (-1), 1) := by decide +kernel
theorem dX1_rowFits_72 : decode cX1_rowFits 72 = .ok (.goto 9, 3) := by decide +kernel
theorem dX1_rowFits_75 : decode cX1_rowFits 75 = .ok (.aload_n 0, 1) := by decide +kernel
theorem dX1_rowFits_76 : decode cX1_rowFits 76 = .ok (.getfield 18, 3) := by decide +kernel
theorem dX1_rowFits_79 : decode cX1_rowFits 79 = .ok (.iload_n 2, 1) := by decide +kernel
theorem dX1_rowFits_80 : decode cX1_rowFits 80 = .ok (.iaload, 1) := by decide +kernel
theorem dX1_rowFits_81 : decode cX1_rowFits 81 = .ok (.iastore, 1) := by decide +kernel
theorem dX1_rowFits_82 : decode cX1_rowFits 82 = .ok (.aload_n 0, 1) := by decide +kernel
theorem dX1_rowFits_83 : decode cX1_rowFits 83 = .ok (.getfield 15, 3) := by decide +kernel
theorem dX1_rowFits_86 : decode cX1_rowFits 86 = .ok (.iload_n 1, 1) := by decide +kernel
theorem dX1_rowFits_87 : decode cX1_rowFits 87 = .ok (.iload 4, 2) := by decide +kernel
theorem dX1_rowFits_89 : decode cX1_rowFits 89 = .ok (.iastore, 1) := by decide +kernel
theorem dX1_rowFits_90 : decode cX1_rowFits 90 = .ok (.iconst 0, 1) := by decide +kernel
theorem dX1_rowFits_91 : decode cX1_rowFits 91 = .ok (.istore 5, 2) := by decide +kernel
theorem dX1_rowFits_93 : decode cX1_rowFits 93 = .ok (.iload 5, 2) := by decide +kernel
theorem dX1_rowFits_95 : decode cX1_rowFits 95 = .ok (.iload 4, 2) := by decide +kernel
theorem dX1_rowFits_97 : decode cX1_rowFits 97 = .ok (.if_icmp .ge 28, 3) := by decide +kernel
theorem dX1_rowFits_100 : decode cX1_rowFits 100 = .ok (.aload_n 0, 1) := by decide +kernel
theorem dX1_rowFits_101 : decode cX1_rowFits 101 = .ok (.getfield 18, 3) := by decide +kernel
theorem dX1_rowFits_104 : decode cX1_rowFits 104 = .ok (.iload_n 2, 1) := by decide +kernel
theorem dX1_rowFits_105 : decode cX1_rowFits 105 = .ok (.aload_n 0, 1) := by decide +kernel
theorem dX1_rowFits_106 : decode cX1_rowFits 106 = .ok (.getfield 37, 3) := by decide +kernel
theorem dX1_rowFits_109 : decode cX1_rowFits 109 = .ok (.aload_n 0, 1) := by decide +kernel
theorem dX1_rowFits_110 : decode cX1_rowFits 110 = .ok (.getfield 18, 3) := by decide +kernel
theorem dX1_rowFits_113 : decode cX1_rowFits 113 = .ok (.iload_n 2, 1) := by decide +kernel
theorem dX1_rowFits_114 : decode cX1_rowFits 114 = .ok (.iaload, 1) := by decide +kernel
theorem dX1_rowFits_115 : decode cX1_rowFits 115 = .ok (.invokevirtual 136, 3) := by decide +kernel
theorem dX1_rowFits_118 : decode cX1_rowFits 118 = .ok (.iastore, 1) := by decide +kernel
theorem dX1_rowFits_119 : decode cX1_rowFits 119 = .ok (.iinc 5 1, 3) := by decide +kernel
theorem dX1_rowFits_122 : decode cX1_rowFits 122 = .ok (.goto (-29), 3) := by decide +kernel
theorem dX1_rowFits_125 : decode cX1_rowFits 125 = .ok (.aload_n 0, 1) := by decide +kernel
theorem dX1_rowFits_126 : decode cX1_rowFits 126 = .ok (.getfield 21, 3) := by decide +kernel
theorem dX1_rowFits_129 : decode cX1_rowFits 129 = .ok (.iload_n 2, 1) := by decide +kernel
theorem dX1_rowFits_130 : decode cX1_rowFits 130 = .ok (.dup2, 1) := by decide +kernel
theorem dX1_rowFits_131 : decode cX1_rowFits 131 = .ok (.iaload, 1) := by decide +kernel
theorem dX1_rowFits_132 : decode cX1_rowFits 132 = .ok (.iload 4, 2) := by decide +kernel
theorem dX1_rowFits_134 : decode cX1_rowFits 134 = .ok (.isub, 1) := by decide +kernel
theorem dX1_rowFits_135 : decode cX1_rowFits 135 = .ok (.iastore, 1) := by decide +kernel
theorem dX1_rowFits_136 : decode cX1_rowFits 136 = .ok (.aload_n 0, 1) := by decide +kernel
theorem dX1_rowFits_137 : decode cX1_rowFits 137 = .ok (.getfield 41, 3) := by decide +kernel
theorem dX1_rowFits_140 : decode cX1_rowFits 140 = .ok (.getfield 55, 3) := by decide +kernel
theorem dX1_rowFits_143 : decode cX1_rowFits 143 = .ok (.aload_n 0, 1) := by decide +kernel
theorem dX1_rowFits_144 : decode cX1_rowFits 144 = .ok (.getfield 41, 3) := by decide +kernel
theorem dX1_rowFits_147 : decode cX1_rowFits 147 = .ok (.getfield 127, 3) := by decide +kernel
theorem dX1_rowFits_150 : decode cX1_rowFits 150 = .ok (.iload_n 1, 1) := by decide +kernel
theorem dX1_rowFits_151 : decode cX1_rowFits 151 = .ok (.iaload, 1) := by decide +kernel
theorem dX1_rowFits_152 : decode cX1_rowFits 152 = .ok (.iaload, 1) := by decide +kernel
theorem dX1_rowFits_153 : decode cX1_rowFits 153 = .ok (.istore 5, 2) := by decide +kernel
theorem dX1_rowFits_155 : decode cX1_rowFits 155 = .ok (.iload 5, 2) := by decide +kernel
theorem dX1_rowFits_157 : decode cX1_rowFits 157 = .ok (.iload_n 1, 1) := by decide +kernel
theorem dX1_rowFits_158 : decode cX1_rowFits 158 = .ok (.if_icmp .eq 13, 3) := by decide +kernel
theorem dX1_rowFits_161 : decode cX1_rowFits 161 = .ok (.aload_n 0, 1) := by decide +kernel
theorem dX1_rowFits_162 : decode cX1_rowFits 162 = .ok (.iload 5, 2) := by decide +kernel
theorem dX1_rowFits_164 : decode cX1_rowFits 164 = .ok (.iload_n 1, 1) := by decide +kernel
theorem dX1_rowFits_165 : decode cX1_rowFits 165 = .ok (.invokevirtual 139, 3) := by decide +kernel
theorem dX1_rowFits_168 : decode cX1_rowFits 168 = .ok (.ifCond .eq 7, 3) := by decide +kernel
theorem dX1_rowFits_171 : decode cX1_rowFits 171 = .ok (.iconst 1, 1) := by decide +kernel
theorem dX1_rowFits_172 : decode cX1_rowFits 172 = .ok (.goto 4, 3) := by decide +kernel
theorem dX1_rowFits_175 : decode cX1_rowFits 175 = .ok (.iconst 0, 1) := by decide +kernel
theorem dX1_rowFits_176 : decode cX1_rowFits 176 = .ok (.ireturn, 1) := by decide +kernel
theorem dX1_rowsAlike_0 : decode cX1_rowsAlike 0 = .ok (.aload_n 0, 1) := by decide +kernel
theorem dX1_rowsAlike_1 : decode cX1_rowsAlike 1 = .ok (.getfield 15, 3) := by decide +kernel
theorem dX1_rowsAlike_4 : decode cX1_rowsAlike 4 = .ok (.iload_n 1, 1) := by decide +kernel
theorem dX1_rowsAlike_5 : decode cX1_rowsAlike 5 = .ok (.iaload, 1) := by decide +kernel
theorem dX1_rowsAlike_6 : decode cX1_rowsAlike 6 = .ok (.aload_n 0, 1) := by decide +kernel
theorem dX1_rowsAlike_7 : decode cX1_rowsAlike 7 = .ok (.getfield 15, 3) := by decide +kernel
theorem dX1_rowsAlike_10 : decode cX1_rowsAlike 10 = .ok (.iload_n 2, 1) := by decide +kernel
theorem dX1_rowsAlike_11 : decode cX1_rowsAlike 11 = .ok (.iaload, 1) := by decide +kernel
theorem dX1_rowsAlike_12 : decode cX1_rowsAlike 12 = .ok (.if_icmp .eq 5, 3) := by decide +kernel
theorem dX1_rowsAlike_15 : decode cX1_rowsAlike 15 = .ok (.iconst 0, 1) := by decide +kernel
theorem dX1_rowsAlike_16 : decode cX1_rowsAlike 16 = .ok (.ireturn, 1) := by decide +kernel
theorem dX1_rowsAlike_17 : decode cX1_rowsAlike 17 = .ok (.aload_n 0, 1) := by decide +kernel
theorem dX1_rowsAlike_18 : decode cX1_rowsAlike 18 = .ok (.getfield 9, 3) := by decide +kernel
theorem dX1_rowsAlike_21 : decode cX1_rowsAlike 21 = .ok (.iload_n 1, 1) := by decide +kernel
theorem dX1_rowsAlike_22 : decode cX1_rowsAlike 22 = .ok (.iaload, 1) := by decide +kernel
theorem dX1_rowsAlike_23 : decode cX1_rowsAlike 23 = .ok (.istore_n 3, 1) := by decide +kernel
theorem dX1_rowsAlike_24 : decode cX1_rowsAlike 24 = .ok (.aload_n 0, 1) := by decide +kernel
theorem dX1_rowsAlike_25 : decode cX1_rowsAlike 25 = .ok (.getfield 9, 3) := by decide +kernel
theorem dX1_rowsAlike_28 : decode cX1_rowsAlike 28 = .ok (.iload_n 2, 1) := by decide +kernel
theorem dX1_rowsAlike_29 : decode cX1_rowsAlike 29 = .ok (.iaload, 1) := by decide +kernel
theorem dX1_rowsAlike_30 : decode cX1_rowsAlike 30 = .ok (.istore 4, 2) := by decide +kernel
theorem dX1_rowsAlike_32 : decode cX1_rowsAlike 32 = .ok (.iconst 0, 1) := by decide +kernel
theorem dX1_rowsAlike_33 : decode cX1_rowsAlike 33 = .ok (.istore 5, 2) := by decide +kernel
theorem dX1_rowsAlike_35 : decode cX1_rowsAlike 35 = .ok (.iload 5, 2) := by decide +kernel
theorem dX1_rowsAlike_37 : decode cX1_rowsAlike 37 = .ok (.aload_n 0, 1) := by decide +kernel
theorem dX1_rowsAlike_38 : decode cX1_rowsAlike 38 = .ok (.getfield 15, 3) := by decide +kernel
theorem dX1_rowsAlike_41 : decode cX1_rowsAlike 41 = .ok (.iload_n 1, 1) := by decide +kernel
theorem dX1_rowsAlike_42 : decode cX1_rowsAlike 42 = .ok (.iaload, 1) := by decide +kernel
theorem dX1_rowsAlike_43 : decode cX1_rowsAlike 43 = .ok (.if_icmp .ge 94, 3) := by decide +kernel
theorem dX1_rowsAlike_46 : decode cX1_rowsAlike 46 = .ok (.iload_n 3, 1) := by decide +kernel
theorem dX1_rowsAlike_47 : decode cX1_rowsAlike 47 = .ok (.ifCond .lt 31, 3) := by decide +kernel
theorem dX1_rowsAlike_50 : decode cX1_rowsAlike 50 = .ok (.iload 4, 2) := by decide +kernel
theorem dX1_rowsAlike_52 : decode cX1_rowsAlike 52 = .ok (.ifCond .lt 26, 3) := by decide +kernel
theorem dX1_rowsAlike_55 : decode cX1_rowsAlike 55 = .ok (.iload_n 3, 1) := by decide +kernel
theorem dX1_rowsAlike_56 : decode cX1_rowsAlike 56 = .ok (.aload_n 0, 1) := by decide +kernel
theorem dX1_rowsAlike_57 : decode cX1_rowsAlike 57 = .ok (.getfield 37, 3) := by decide +kernel
theorem dX1_rowsAlike_60 : decode cX1_rowsAlike 60 = .ok (.getfield 60, 3) := by decide +kernel
theorem dX1_rowsAlike_63 : decode cX1_rowsAlike 63 = .ok (.if_icmp .ge 15, 3) := by decide +kernel
theorem dX1_rowsAlike_66 : decode cX1_rowsAlike 66 = .ok (.iload 4, 2) := by decide +kernel
theorem dX1_rowsAlike_68 : decode cX1_rowsAlike 68 = .ok (.aload_n 0, 1) := by decide +kernel
theorem dX1_rowsAlike_69 : decode cX1_rowsAlike 69 = .ok (.getfield 37, 3) := by decide +kernel
theorem dX1_rowsAlike_72 : decode cX1_rowsAlike 72 = .ok (.getfield 60, 3) := by decide +kernel
theorem dX1_rowsAlike_75 : decode cX1_rowsAlike 75 = .ok (.if_icmp .lt 5, 3) := by decide +kernel
theorem dX1_rowsAlike_78 : decode cX1_rowsAlike 78 = .ok (.iconst 0, 1) := by decide +kernel
theorem dX1_rowsAlike_79 : decode cX1_rowsAlike 79 = .ok (.ireturn, 1) := by decide +kernel
theorem dX1_rowsAlike_80 : decode cX1_rowsAlike 80 = .ok (.aload_n 0, 1) := by decide +kernel
theorem dX1_rowsAlike_81 : decode cX1_rowsAlike 81 = .ok (.getfield 37, 3) := by decide +kernel
theorem dX1_rowsAlike_84 : decode cX1_rowsAlike 84 = .ok (.getfield 130, 3) := by decide +kernel
theorem dX1_rowsAlike_87 : decode cX1_rowsAlike 87 = .ok (.iload_n 3, 1) := by decide +kernel
theorem dX1_rowsAlike_88 : decode cX1_rowsAlike 88 = .ok (.iaload, 1) := by decide +kernel
theorem dX1_rowsAlike_89 : decode cX1_rowsAlike 89 = .ok (.aload_n 0, 1) := by decide +kernel
theorem dX1_rowsAlike_90 : decode cX1_rowsAlike 90 = .ok (.getfield 37, 3) := by decide +kernel
theorem dX1_rowsAlike_93 : decode cX1_rowsAlike 93 = .ok (.getfield 130, 3) := by decide +kernel
theorem dX1_rowsAlike_96 : decode cX1_rowsAlike 96 = .ok (.iload 4, 2) := by decide +kernel
theorem dX1_rowsAlike_98 : decode cX1_rowsAlike 98 = .ok (.iaload, 1) := by decide +kernel
theorem dX1_rowsAlike_99 : decode cX1_rowsAlike 99 = .ok (.if_icmp .eq 5, 3) := by decide +kernel
theorem dX1_rowsAlike_102 : decode cX1_rowsAlike 102 = .ok (.iconst 0, 1) := by decide +kernel
theorem dX1_rowsAlike_103 : decode cX1_rowsAlike 103 = .ok (.ireturn, 1) := by decide +kernel
theorem dX1_rowsAlike_104 : decode cX1_rowsAlike 104 = .ok (.iload_n 3, 1) := by decide +kernel
theorem dX1_rowsAlike_105 : decode cX1_rowsAlike 105 = .ok (.aload_n 0, 1) := by decide +kernel
theorem dX1_rowsAlike_106 : decode cX1_rowsAlike 106 = .ok (.getfield 37, 3) := by decide +kernel
theorem dX1_rowsAlike_109 : decode cX1_rowsAlike 109 = .ok (.getfield 114, 3) := by decide +kernel
theorem dX1_rowsAlike_112 : decode cX1_rowsAlike 112 = .ok (.iload_n 3, 1) := by decide +kernel
theorem dX1_rowsAlike_113 : decode cX1_rowsAlike 113 = .ok (.iaload, 1) := by decide +kernel
theorem dX1_rowsAlike_114 : decode cX1_rowsAlike 114 = .ok (.iadd, 1) := by decide +kernel
theorem dX1_rowsAlike_115 : decode cX1_rowsAlike 115 = .ok (.istore_n 3, 1) := by decide +kernel
theorem dX1_rowsAlike_116 : decode cX1_rowsAlike 116 = .ok (.iload 4, 2) := by decide +kernel
theorem dX1_rowsAlike_118 : decode cX1_rowsAlike 118 = .ok (.aload_n 0, 1) := by decide +kernel
theorem dX1_rowsAlike_119 : decode cX1_rowsAlike 119 = .ok (.getfield 37, 3) := by decide +kernel
theorem dX1_rowsAlike_122 : decode cX1_rowsAlike 122 = .ok (.getfield 114, 3) := by decide +kernel
theorem dX1_rowsAlike_125 : decode cX1_rowsAlike 125 = .ok (.iload 4, 2) := by decide +kernel
theorem dX1_rowsAlike_127 : decode cX1_rowsAlike 127 = .ok (.iaload, 1) := by decide +kernel
theorem dX1_rowsAlike_128 : decode cX1_rowsAlike 128 = .ok (.iadd, 1) := by decide +kernel
theorem dX1_rowsAlike_129 : decode cX1_rowsAlike 129 = .ok (.istore 4, 2) := by decide +kernel
theorem dX1_rowsAlike_131 : decode cX1_rowsAlike 131 = .ok (.iinc 5 1, 3) := by decide +kernel
theorem dX1_rowsAlike_134 : decode cX1_rowsAlike 134 = .ok (.goto (-99), 3) := by decide +kernel
theorem dX1_rowsAlike_137 : decode cX1_rowsAlike 137 = .ok (.iconst 1, 1) := by decide +kernel
theorem dX1_rowsAlike_138 : decode cX1_rowsAlike 138 = .ok (.ireturn, 1) := by decide +kernel
theorem dX2_init_0 : decode cX2_init 0 = .ok (.aload_n 0, 1) := by decide +kernel
theorem dX2_init_1 : decode cX2_init 1 = .ok (.invokespecial 3, 3) := by decide +kernel
theorem dX2_init_4 : decode cX2_init 4 = .ok (.aload_n 0, 1) := by decide +kernel
theorem dX2_init_5 : decode cX2_init 5 = .ok (.bipush 11, 2) := by decide +kernel
theorem dX2_init_7 : decode cX2_init 7 = .ok (.sipush 240, 3) := by decide +kernel
theorem dX2_init_10 : decode cX2_init 10 = .ok (.multianewarray 11 2, 4) := by decide +kernel
theorem dX2_init_14 : decode cX2_init 14 = .ok (.putfield 13, 3) := by decide +kernel
theorem dX2_init_17 : decode cX2_init 17 = .ok (.aload_n 0, 1) := by decide +kernel
theorem dX2_init_18 : decode cX2_init 18 = .ok (.bipush 11, 2) := by decide +kernel
theorem dX2_init_20 : decode cX2_init 20 = .ok (.newarray .int, 2) := by decide +kernel
theorem dX2_init_22 : decode cX2_init 22 = .ok (.putfield 16, 3) := by decide +kernel
theorem dX2_init_25 : decode cX2_init 25 = .ok (.return_, 1) := by decide +kernel
theorem dX2_write_0 : decode cX2_write 0 = .ok (.aload_n 1, 1) := by decide +kernel
theorem dX2_write_1 : decode cX2_write 1 = .ok (.getfield 20, 3) := by decide +kernel
theorem dX2_write_4 : decode cX2_write 4 = .ok (.iconst 0, 1) := by decide +kernel
theorem dX2_write_5 : decode cX2_write 5 = .ok (.aload_n 0, 1) := by decide +kernel
theorem dX2_write_6 : decode cX2_write 6 = .ok (.getfield 13, 3) := by decide +kernel
theorem dX2_write_9 : decode cX2_write 9 = .ok (.aload_n 0, 1) := by decide +kernel
theorem dX2_write_10 : decode cX2_write 10 = .ok (.getfield 25, 3) := by decide +kernel
theorem dX2_write_13 : decode cX2_write 13 = .ok (.aaload, 1) := by decide +kernel
theorem dX2_write_14 : decode cX2_write 14 = .ok (.iconst 0, 1) := by decide +kernel
theorem dX2_write_15 : decode cX2_write 15 = .ok (.aload_n 1, 1) := by decide +kernel
theorem dX2_write_16 : decode cX2_write 16 = .ok (.getfield 29, 3) := by decide +kernel
theorem dX2_write_19 : decode cX2_write 19 = .ok (.invokestatic 32, 3) := by decide +kernel
theorem dX2_write_22 : decode cX2_write 22 = .ok (.aload_n 0, 1) := by decide +kernel
theorem dX2_write_23 : decode cX2_write 23 = .ok (.getfield 16, 3) := by decide +kernel
theorem dX2_write_26 : decode cX2_write 26 = .ok (.aload_n 0, 1) := by decide +kernel
theorem dX2_write_27 : decode cX2_write 27 = .ok (.getfield 25, 3) := by decide +kernel
theorem dX2_write_30 : decode cX2_write 30 = .ok (.aload_n 1, 1) := by decide +kernel
theorem dX2_write_31 : decode cX2_write 31 = .ok (.getfield 29, 3) := by decide +kernel
theorem dX2_write_34 : decode cX2_write 34 = .ok (.iastore, 1) := by decide +kernel
theorem dX2_write_35 : decode cX2_write 35 = .ok (.return_, 1) := by decide +kernel
theorem dX2_keepWritten_0 : decode cX2_keepWritten 0 = .ok (.aload_n 0, 1) := by decide +kernel
theorem dX2_keepWritten_1 : decode cX2_keepWritten 1 = .ok (.aload_n 0, 1) := by decide +kernel
theorem dX2_keepWritten_2 : decode cX2_keepWritten 2 = .ok (.getfield 25, 3) := by decide +kernel
theorem dX2_keepWritten_5 : decode cX2_keepWritten 5 = .ok (.iconst 1, 1) := by decide +kernel
theorem dX2_keepWritten_6 : decode cX2_keepWritten 6 = .ok (.iadd, 1) := by decide +kernel
theorem dX2_keepWritten_7 : decode cX2_keepWritten 7 = .ok (.bipush 11, 2) := by decide +kernel
theorem dX2_keepWritten_9 : decode cX2_keepWritten 9 = .ok (.if_icmp .ge 12, 3) := by decide +kernel
theorem dX2_keepWritten_12 : decode cX2_keepWritten 12 = .ok (.aload_n 0, 1) := by decide +kernel
theorem dX2_keepWritten_13 : decode cX2_keepWritten 13 = .ok (.getfield 25, 3) := by decide +kernel
theorem dX2_keepWritten_16 : decode cX2_keepWritten 16 = .ok (.iconst 1, 1) := by decide +kernel
theorem dX2_keepWritten_17 : decode cX2_keepWritten 17 = .ok (.iadd, 1) := by decide +kernel
theorem dX2_keepWritten_18 : decode cX2_keepWritten 18 = .ok (.goto 4, 3) := by decide +kernel
theorem dX2_keepWritten_21 : decode cX2_keepWritten 21 = .ok (.iconst 0, 1) := by decide +kernel
theorem dX2_keepWritten_22 : decode cX2_keepWritten 22 = .ok (.putfield 25, 3) := by decide +kernel
theorem dX2_keepWritten_25 : decode cX2_keepWritten 25 = .ok (.aload_n 0, 1) := by decide +kernel
theorem dX2_keepWritten_26 : decode cX2_keepWritten 26 = .ok (.aload_n 0, 1) := by decide +kernel
theorem dX2_keepWritten_27 : decode cX2_keepWritten 27 = .ok (.getfield 38, 3) := by decide +kernel
theorem dX2_keepWritten_30 : decode cX2_keepWritten 30 = .ok (.iconst 1, 1) := by decide +kernel
theorem dX2_keepWritten_31 : decode cX2_keepWritten 31 = .ok (.iadd, 1) := by decide +kernel
theorem dX2_keepWritten_32 : decode cX2_keepWritten 32 = .ok (.bipush 10, 2) := by decide +kernel
theorem dX2_keepWritten_34 : decode cX2_keepWritten 34 = .ok (.invokestatic 41, 3) := by decide +kernel
theorem dX2_keepWritten_37 : decode cX2_keepWritten 37 = .ok (.putfield 38, 3) := by decide +kernel
theorem dX2_keepWritten_40 : decode cX2_keepWritten 40 = .ok (.return_, 1) := by decide +kernel
theorem dX2_readWritten_0 : decode cX2_readWritten 0 = .ok (.aload_n 1, 1) := by decide +kernel
theorem dX2_readWritten_1 : decode cX2_readWritten 1 = .ok (.aload_n 0, 1) := by decide +kernel
theorem dX2_readWritten_2 : decode cX2_readWritten 2 = .ok (.getfield 13, 3) := by decide +kernel
theorem dX2_readWritten_5 : decode cX2_readWritten 5 = .ok (.aload_n 0, 1) := by decide +kernel
theorem dX2_readWritten_6 : decode cX2_readWritten 6 = .ok (.getfield 25, 3) := by decide +kernel
theorem dX2_readWritten_9 : decode cX2_readWritten 9 = .ok (.aaload, 1) := by decide +kernel
theorem dX2_readWritten_10 : decode cX2_readWritten 10 = .ok (.aload_n 0, 1) := by decide +kernel
theorem dX2_readWritten_11 : decode cX2_readWritten 11 = .ok (.getfield 16, 3) := by decide +kernel
theorem dX2_readWritten_14 : decode cX2_readWritten 14 = .ok (.aload_n 0, 1) := by decide +kernel
theorem dX2_readWritten_15 : decode cX2_readWritten 15 = .ok (.getfield 25, 3) := by decide +kernel
theorem dX2_readWritten_18 : decode cX2_readWritten 18 = .ok (.iaload, 1) := by decide +kernel
theorem dX2_readWritten_19 : decode cX2_readWritten 19 = .ok (.invokevirtual 47, 3) := by decide +kernel
theorem dX2_readWritten_22 : decode cX2_readWritten 22 = .ok (.return_, 1) := by decide +kernel
theorem dX2_stepBack_0 : decode cX2_stepBack 0 = .ok (.aload_n 0, 1) := by decide +kernel
theorem dX2_stepBack_1 : decode cX2_stepBack 1 = .ok (.getfield 38, 3) := by decide +kernel
theorem dX2_stepBack_4 : decode cX2_stepBack 4 = .ok (.ifCond .ne 5, 3) := by decide +kernel
theorem dX2_stepBack_7 : decode cX2_stepBack 7 = .ok (.iconst 0, 1) := by decide +kernel
theorem dX2_stepBack_8 : decode cX2_stepBack 8 = .ok (.ireturn, 1) := by decide +kernel
theorem dX2_stepBack_9 : decode cX2_stepBack 9 = .ok (.aload_n 0, 1) := by decide +kernel
theorem dX2_stepBack_10 : decode cX2_stepBack 10 = .ok (.dup, 1) := by decide +kernel
theorem dX2_stepBack_11 : decode cX2_stepBack 11 = .ok (.getfield 38, 3) := by decide +kernel
theorem dX2_stepBack_14 : decode cX2_stepBack 14 = .ok (.iconst 1, 1) := by decide +kernel
theorem dX2_stepBack_15 : decode cX2_stepBack 15 = .ok (.isub, 1) := by decide +kernel
theorem dX2_stepBack_16 : decode cX2_stepBack 16 = .ok (.putfield 38, 3) := by decide +kernel
theorem dX2_stepBack_19 : decode cX2_stepBack 19 = .ok (.aload_n 0, 1) := by decide +kernel
theorem dX2_stepBack_20 : decode cX2_stepBack 20 = .ok (.aload_n 0, 1) := by decide +kernel
theorem dX2_stepBack_21 : decode cX2_stepBack 21 = .ok (.getfield 25, 3) := by decide +kernel
theorem dX2_stepBack_24 : decode cX2_stepBack 24 = .ok (.ifCond .le 12, 3) := by decide +kernel
theorem dX2_stepBack_27 : decode cX2_stepBack 27 = .ok (.aload_n 0, 1) := by decide +kernel
theorem dX2_stepBack_28 : decode cX2_stepBack 28 = .ok (.getfield 25, 3) := by decide +kernel
theorem dX2_stepBack_31 : decode cX2_stepBack 31 = .ok (.iconst 1, 1) := by decide +kernel
theorem dX2_stepBack_32 : decode cX2_stepBack 32 = .ok (.isub, 1) := by decide +kernel
theorem dX2_stepBack_33 : decode cX2_stepBack 33 = .ok (.goto 5, 3) := by decide +kernel
theorem dX2_stepBack_36 : decode cX2_stepBack 36 = .ok (.bipush 10, 2) := by decide +kernel
theorem dX2_stepBack_38 : decode cX2_stepBack 38 = .ok (.putfield 25, 3) := by decide +kernel
theorem dX2_stepBack_41 : decode cX2_stepBack 41 = .ok (.iconst 1, 1) := by decide +kernel
theorem dX2_stepBack_42 : decode cX2_stepBack 42 = .ok (.ireturn, 1) := by decide +kernel
theorem dX2_forget_0 : decode cX2_forget 0 = .ok (.aload_n 0, 1) := by decide +kernel
theorem dX2_forget_1 : decode cX2_forget 1 = .ok (.iconst 0, 1) := by decide +kernel
theorem dX2_forget_2 : decode cX2_forget 2 = .ok (.putfield 38, 3) := by decide +kernel
theorem dX2_forget_5 : decode cX2_forget 5 = .ok (.return_, 1) := by decide +kernel
theorem dX3_init_0 : decode cX3_init 0 = .ok (.aload_n 0, 1) := by decide +kernel
theorem dX3_init_1 : decode cX3_init 1 = .ok (.invokespecial 3, 3) := by decide +kernel
theorem dX3_init_4 : decode cX3_init 4 = .ok (.aload_n 0, 1) := by decide +kernel
theorem dX3_init_5 : decode cX3_init 5 = .ok (.bipush 80, 2) := by decide +kernel
theorem dX3_init_7 : decode cX3_init 7 = .ok (.newarray .boolean, 2) := by decide +kernel
theorem dX3_init_9 : decode cX3_init 9 = .ok (.putfield 9, 3) := by decide +kernel
theorem dX3_init_12 : decode cX3_init 12 = .ok (.aload_n 0, 1) := by decide +kernel
theorem dX3_init_13 : decode cX3_init 13 = .ok (.aload_n 1, 1) := by decide +kernel
theorem dX3_init_14 : decode cX3_init 14 = .ok (.putfield 15, 3) := by decide +kernel
theorem dX3_init_17 : decode cX3_init 17 = .ok (.aload_n 0, 1) := by decide +kernel
theorem dX3_init_18 : decode cX3_init 18 = .ok (.aload_n 2, 1) := by decide +kernel
theorem dX3_init_19 : decode cX3_init 19 = .ok (.putfield 19, 3) := by decide +kernel
theorem dX3_init_22 : decode cX3_init 22 = .ok (.aload_n 0, 1) := by decide +kernel
theorem dX3_init_23 : decode cX3_init 23 = .ok (.aload_n 3, 1) := by decide +kernel
theorem dX3_init_24 : decode cX3_init 24 = .ok (.putfield 22, 3) := by decide +kernel
theorem dX3_init_27 : decode cX3_init 27 = .ok (.return_, 1) := by decide +kernel
theorem dX3_build_0 : decode cX3_build 0 = .ok (.aload_n 1, 1) := by decide +kernel
theorem dX3_build_1 : decode cX3_build 1 = .ok (.iconst 0, 1) := by decide +kernel
theorem dX3_build_2 : decode cX3_build 2 = .ok (.putfield 26, 3) := by decide +kernel
theorem dX3_build_5 : decode cX3_build 5 = .ok (.iconst 0, 1) := by decide +kernel
theorem dX3_build_6 : decode cX3_build 6 = .ok (.istore_n 3, 1) := by decide +kernel
theorem dX3_build_7 : decode cX3_build 7 = .ok (.iconst 0, 1) := by decide +kernel
theorem dX3_build_8 : decode cX3_build 8 = .ok (.istore 4, 2) := by decide +kernel
theorem dX3_build_10 : decode cX3_build 10 = .ok (.iload 4, 2) := by decide +kernel
theorem dX3_build_12 : decode cX3_build 12 = .ok (.aload_n 2, 1) := by decide +kernel
theorem dX3_build_13 : decode cX3_build 13 = .ok (.getfield 32, 3) := by decide +kernel
theorem dX3_build_16 : decode cX3_build 16 = .ok (.if_icmp .ge 76, 3) := by decide +kernel
theorem dX3_build_19 : decode cX3_build 19 = .ok (.aload_n 2, 1) := by decide +kernel
theorem dX3_build_20 : decode cX3_build 20 = .ok (.getfield 37, 3) := by decide +kernel
theorem dX3_build_23 : decode cX3_build 23 = .ok (.iload 4, 2) := by decide +kernel
theorem dX3_build_25 : decode cX3_build 25 = .ok (.iaload, 1) := by decide +kernel
theorem dX3_build_26 : decode cX3_build 26 = .ok (.istore 5, 2) := by decide +kernel
theorem dX3_build_28 : decode cX3_build 28 = .ok (.aload_n 1, 1) := by decide +kernel
theorem dX3_build_29 : decode cX3_build 29 = .ok (.aload_n 0, 1) := by decide +kernel
theorem dX3_build_30 : decode cX3_build 30 = .ok (.getfield 15, 3) := by decide +kernel
theorem dX3_build_33 : decode cX3_build 33 = .ok (.getfield 41, 3) := by decide +kernel
theorem dX3_build_36 : decode cX3_build 36 = .ok (.iload_n 3, 1) := by decide +kernel
theorem dX3_build_37 : decode cX3_build 37 = .ok (.aload_n 0, 1) := by decide +kernel
theorem dX3_build_38 : decode cX3_build 38 = .ok (.getfield 15, 3) := by decide +kernel
theorem dX3_build_41 : decode cX3_build 41 = .ok (.getfield 44, 3) := by decide +kernel
theorem dX3_build_44 : decode cX3_build 44 = .ok (.iload 5, 2) := by decide +kernel
theorem dX3_build_46 : decode cX3_build 46 = .ok (.iaload, 1) := by decide +kernel
theorem dX3_build_47 : decode cX3_build 47 = .ok (.invokevirtual 47, 3) := by decide +kernel
theorem dX3_build_50 : decode cX3_build 50 = .ok (.ifCond .eq 23, 3) := by decide +kernel
theorem dX3_build_53 : decode cX3_build 53 = .ok (.aload_n 0, 1) := by decide +kernel
theorem dX3_build_54 : decode cX3_build 54 = .ok (.getfield 22, 3) := by decide +kernel
theorem dX3_build_57 : decode cX3_build 57 = .ok (.iload 5, 2) := by decide +kernel
theorem dX3_build_59 : decode cX3_build 59 = .ok (.invokevirtual 51, 3) := by decide +kernel
theorem dX3_build_62 : decode cX3_build 62 = .ok (.ifCond .eq 11, 3) := by decide +kernel
theorem dX3_build_65 : decode cX3_build 65 = .ok (.aload_n 0, 1) := by decide +kernel
theorem dX3_build_66 : decode cX3_build 66 = .ok (.aload_n 1, 1) := by decide +kernel
theorem dX3_build_67 : decode cX3_build 67 = .ok (.invokevirtual 57, 3) := by decide +kernel
theorem dX3_build_70 : decode cX3_build 70 = .ok (.ifCond .ne 5, 3) := by decide +kernel
theorem dX3_build_73 : decode cX3_build 73 = .ok (.iconst 0, 1) := by decide +kernel
theorem dX3_build_74 : decode cX3_build 74 = .ok (.ireturn, 1) := by decide +kernel
theorem dX3_build_75 : decode cX3_build 75 = .ok (.aload_n 0, 1) := by decide +kernel
theorem dX3_build_76 : decode cX3_build 76 = .ok (.getfield 15, 3) := by decide +kernel
theorem dX3_build_79 : decode cX3_build 79 = .ok (.getfield 61, 3) := by decide +kernel
theorem dX3_build_82 : decode cX3_build 82 = .ok (.iload 5, 2) := by decide +kernel
theorem dX3_build_84 : decode cX3_build 84 = .ok (.iaload, 1) := by decide +kernel
theorem dX3_build_85 : decode cX3_build 85 = .ok (.istore_n 3, 1) := by decide +kernel
theorem dX3_build_86 : decode cX3_build 86 = .ok (.iinc 4 1, 3) := by decide +kernel
theorem dX3_build_89 : decode cX3_build 89 = .ok (.goto (-79), 3) := by decide +kernel
theorem dX3_build_92 : decode cX3_build 92 = .ok (.aload_n 1, 1) := by decide +kernel
theorem dX3_build_93 : decode cX3_build 93 = .ok (.aload_n 0, 1) := by decide +kernel
theorem dX3_build_94 : decode cX3_build 94 = .ok (.getfield 15, 3) := by decide +kernel
theorem dX3_build_97 : decode cX3_build 97 = .ok (.getfield 41, 3) := by decide +kernel
theorem dX3_build_100 : decode cX3_build 100 = .ok (.iload_n 3, 1) := by decide +kernel
theorem dX3_build_101 : decode cX3_build 101 = .ok (.aload_n 0, 1) := by decide +kernel
theorem dX3_build_102 : decode cX3_build 102 = .ok (.getfield 15, 3) := by decide +kernel
theorem dX3_build_105 : decode cX3_build 105 = .ok (.getfield 26, 3) := by decide +kernel
theorem dX3_build_108 : decode cX3_build 108 = .ok (.invokevirtual 47, 3) := by decide +kernel
theorem dX3_build_111 : decode cX3_build 111 = .ok (.ireturn, 1) := by decide +kernel
theorem dX3_fillTemplate_0 : decode cX3_fillTemplate 0 = .ok (.aload_n 0, 1) := by decide +kernel
theorem dX3_fillTemplate_1 : decode cX3_fillTemplate 1 = .ok (.invokevirtual 64, 3) := by decide +kernel
theorem dX3_fillTemplate_4 : decode cX3_fillTemplate 4 = .ok (.aload_n 0, 1) := by decide +kernel
theorem dX3_fillTemplate_5 : decode cX3_fillTemplate 5 = .ok (.getfield 19, 3) := by decide +kernel
theorem dX3_fillTemplate_8 : decode cX3_fillTemplate 8 = .ok (.getfield 61, 3) := by decide +kernel
theorem dX3_fillTemplate_11 : decode cX3_fillTemplate 11 = .ok (.iconst 0, 1) := by decide +kernel
theorem dX3_fillTemplate_12 : decode cX3_fillTemplate 12 = .ok (.iaload, 1) := by decide +kernel
theorem dX3_fillTemplate_13 : decode cX3_fillTemplate 13 = .ok (.bipush 80, 2) := by decide +kernel
theorem dX3_fillTemplate_15 : decode cX3_fillTemplate 15 = .ok (.invokestatic 67, 3) := by decide +kernel
theorem dX3_fillTemplate_18 : decode cX3_fillTemplate 18 = .ok (.istore_n 2, 1) := by decide +kernel
theorem dX3_fillTemplate_19 : decode cX3_fillTemplate 19 = .ok (.iconst 0, 1) := by decide +kernel
theorem dX3_fillTemplate_20 : decode cX3_fillTemplate 20 = .ok (.istore_n 3, 1) := by decide +kernel
theorem dX3_fillTemplate_21 : decode cX3_fillTemplate 21 = .ok (.aload_n 0, 1) := by decide +kernel
theorem dX3_fillTemplate_22 : decode cX3_fillTemplate 22 = .ok (.getfield 19, 3) := by decide +kernel
theorem dX3_fillTemplate_25 : decode cX3_fillTemplate 25 = .ok (.getfield 44, 3) := by decide +kernel
theorem dX3_fillTemplate_28 : decode cX3_fillTemplate 28 = .ok (.iconst 0, 1) := by decide +kernel
theorem dX3_fillTemplate_29 : decode cX3_fillTemplate 29 = .ok (.iaload, 1) := by decide +kernel
theorem dX3_fillTemplate_30 : decode cX3_fillTemplate 30 = .ok (.istore 4, 2) := by decide +kernel
theorem dX3_fillTemplate_32 : decode cX3_fillTemplate 32 = .ok (.iload 4, 2) := by decide +kernel
theorem dX3_fillTemplate_34 : decode cX3_fillTemplate 34 = .ok (.iload_n 2, 1) := by decide +kernel
theorem dX3_fillTemplate_35 : decode cX3_fillTemplate 35 = .ok (.if_icmp .ge 126, 3) := by decide +kernel
theorem dX3_fillTemplate_38 : decode cX3_fillTemplate 38 = .ok (.aload_n 0, 1) := by decide +kernel
theorem dX3_fillTemplate_39 : decode cX3_fillTemplate 39 = .ok (.getfield 19, 3) := by decide +kernel
theorem dX3_fillTemplate_42 : decode cX3_fillTemplate 42 = .ok (.getfield 41, 3) := by decide +kernel
theorem dX3_fillTemplate_45 : decode cX3_fillTemplate 45 = .ok (.iload 4, 2) := by decide +kernel
theorem dX3_fillTemplate_47 : decode cX3_fillTemplate 47 = .ok (.iaload, 1) := by decide +kernel
theorem dX3_fillTemplate_48 : decode cX3_fillTemplate 48 = .ok (.istore 5, 2) := by decide +kernel
theorem dX3_fillTemplate_50 : decode cX3_fillTemplate 50 = .ok (.iconst 1, 1) := by decide +kernel
theorem dX3_fillTemplate_51 : decode cX3_fillTemplate 51 = .ok (.istore 6, 2) := by decide +kernel
theorem dX3_fillTemplate_53 : decode cX3_fillTemplate 53 = .ok (.iload_n 3, 1) := by decide +kernel
theorem dX3_fillTemplate_54 : decode cX3_fillTemplate 54 = .ok (.ifCond .eq 38, 3) := by decide +kernel
theorem dX3_fillTemplate_57 : decode cX3_fillTemplate 57 = .ok (.aload_n 0, 1) := by decide +kernel
theorem dX3_fillTemplate_58 : decode cX3_fillTemplate 58 = .ok (.getfield 9, 3) := by decide +kernel
theorem dX3_fillTemplate_61 : decode cX3_fillTemplate 61 = .ok (.iload 4, 2) := by decide +kernel
theorem dX3_fillTemplate_63 : decode cX3_fillTemplate 63 = .ok (.baload, 1) := by decide +kernel
theorem dX3_fillTemplate_64 : decode cX3_fillTemplate 64 = .ok (.ifCond .ne 16, 3) := by decide +kernel
theorem dX3_fillTemplate_67 : decode cX3_fillTemplate 67 = .ok (.aload_n 0, 1) := by decide +kernel
theorem dX3_fillTemplate_68 : decode cX3_fillTemplate 68 = .ok (.aload_n 1, 1) := by decide +kernel
theorem dX3_fillTemplate_69 : decode cX3_fillTemplate 69 = .ok (.iload 5, 2) := by decide +kernel
theorem dX3_fillTemplate_71 : decode cX3_fillTemplate 71 = .ok (.bipush 97, 2) := by decide +kernel
theorem dX3_fillTemplate_73 : decode cX3_fillTemplate 73 = .ok (.isub, 1) := by decide +kernel
theorem dX3_fillTemplate_74 : decode cX3_fillTemplate 74 = .ok (.invokevirtual 73, 3) := by decide +kernel
theorem dX3_fillTemplate_77 : decode cX3_fillTemplate 77 = .ok (.ifCond .eq 7, 3) := by decide +kernel
theorem dX3_fillTemplate_80 : decode cX3_fillTemplate 80 = .ok (.iconst 1, 1) := by decide +kernel
theorem dX3_fillTemplate_81 : decode cX3_fillTemplate 81 = .ok (.goto 4, 3) := by decide +kernel
theorem dX3_fillTemplate_84 : decode cX3_fillTemplate 84 = .ok (.iconst 0, 1) := by decide +kernel
theorem dX3_fillTemplate_85 : decode cX3_fillTemplate 85 = .ok (.istore 6, 2) := by decide +kernel
theorem dX3_fillTemplate_87 : decode cX3_fillTemplate 87 = .ok (.iconst 0, 1) := by decide +kernel
theorem dX3_fillTemplate_88 : decode cX3_fillTemplate 88 = .ok (.istore_n 3, 1) := by decide +kernel
theorem dX3_fillTemplate_89 : decode cX3_fillTemplate 89 = .ok (.goto 59, 3) := by decide +kernel
theorem dX3_fillTemplate_92 : decode cX3_fillTemplate 92 = .ok (.iload 5, 2) := by decide +kernel
theorem dX3_fillTemplate_94 : decode cX3_fillTemplate 94 = .ok (.bipush 63, 2) := by decide +kernel
theorem dX3_fillTemplate_96 : decode cX3_fillTemplate 96 = .ok (.if_icmp .eq 10, 3) := by decide +kernel
theorem dX3_fillTemplate_99 : decode cX3_fillTemplate 99 = .ok (.iload 5, 2) := by decide +kernel
theorem dX3_fillTemplate_101 : decode cX3_fillTemplate 101 = .ok (.bipush 42, 2) := by decide +kernel
theorem dX3_fillTemplate_103 : decode cX3_fillTemplate 103 = .ok (.if_icmp .ne 8, 3) := by decide +kernel
theorem dX3_fillTemplate_106 : decode cX3_fillTemplate 106 = .ok (.iconst 1, 1) := by decide +kernel
theorem dX3_fillTemplate_107 : decode cX3_fillTemplate 107 = .ok (.istore_n 3, 1) := by decide +kernel
theorem dX3_fillTemplate_108 : decode cX3_fillTemplate 108 = .ok (.goto 40, 3) := by decide +kernel
theorem dX3_fillTemplate_111 : decode cX3_fillTemplate 111 = .ok (.aload_n 0, 1) := by decide +kernel
theorem dX3_fillTemplate_112 : decode cX3_fillTemplate 112 = .ok (.getfield 9, 3) := by decide +kernel
theorem dX3_fillTemplate_115 : decode cX3_fillTemplate 115 = .ok (.iload 4, 2) := by decide +kernel
theorem dX3_fillTemplate_117 : decode cX3_fillTemplate 117 = .ok (.baload, 1) := by decide +kernel
theorem dX3_fillTemplate_118 : decode cX3_fillTemplate 118 = .ok (.ifCond .ne 23, 3) := by decide +kernel
theorem dX3_fillTemplate_121 : decode cX3_fillTemplate 121 = .ok (.aload_n 1, 1) := by decide +kernel
theorem dX3_fillTemplate_122 : decode cX3_fillTemplate 122 = .ok (.aload_n 0, 1) := by decide +kernel
theorem dX3_fillTemplate_123 : decode cX3_fillTemplate 123 = .ok (.getfield 19, 3) := by decide +kernel
theorem dX3_fillTemplate_126 : decode cX3_fillTemplate 126 = .ok (.getfield 41, 3) := by decide +kernel
theorem dX3_fillTemplate_129 : decode cX3_fillTemplate 129 = .ok (.iload 4, 2) := by decide +kernel
theorem dX3_fillTemplate_131 : decode cX3_fillTemplate 131 = .ok (.iload 4, 2) := by decide +kernel
theorem dX3_fillTemplate_133 : decode cX3_fillTemplate 133 = .ok (.iconst 1, 1) := by decide +kernel
theorem dX3_fillTemplate_134 : decode cX3_fillTemplate 134 = .ok (.iadd, 1) := by decide +kernel
theorem dX3_fillTemplate_135 : decode cX3_fillTemplate 135 = .ok (.invokevirtual 47, 3) := by decide +kernel
theorem dX3_fillTemplate_138 : decode cX3_fillTemplate 138 = .ok (.ifCond .eq 7, 3) := by decide +kernel
theorem dX3_fillTemplate_141 : decode cX3_fillTemplate 141 = .ok (.iconst 1, 1) := by decide +kernel
theorem dX3_fillTemplate_142 : decode cX3_fillTemplate 142 = .ok (.goto 4, 3) := by decide +kernel
theorem dX3_fillTemplate_145 : decode cX3_fillTemplate 145 = .ok (.iconst 0, 1) := by decide +kernel
theorem dX3_fillTemplate_146 : decode cX3_fillTemplate 146 = .ok (.istore 6, 2) := by decide +kernel
theorem dX3_fillTemplate_148 : decode cX3_fillTemplate 148 = .ok (.iload 6, 2) := by decide +kernel
theorem dX3_fillTemplate_150 : decode cX3_fillTemplate 150 = .ok (.ifCond .ne 5, 3) := by decide +kernel
theorem dX3_fillTemplate_153 : decode cX3_fillTemplate 153 = .ok (.iconst 0, 1) := by decide +kernel
theorem dX3_fillTemplate_154 : decode cX3_fillTemplate 154 = .ok (.ireturn, 1) := by decide +kernel
theorem dX3_fillTemplate_155 : decode cX3_fillTemplate 155 = .ok (.iinc 4 1, 3) := by decide +kernel
theorem dX3_fillTemplate_158 : decode cX3_fillTemplate 158 = .ok (.goto (-126), 3) := by decide +kernel
theorem dX3_fillTemplate_161 : decode cX3_fillTemplate 161 = .ok (.iconst 1, 1) := by decide +kernel
theorem dX3_fillTemplate_162 : decode cX3_fillTemplate 162 = .ok (.ireturn, 1) := by decide +kernel
theorem dX3_fillLetter_0 : decode cX3_fillLetter 0 = .ok (.aload_n 0, 1) := by decide +kernel
theorem dX3_fillLetter_1 : decode cX3_fillLetter 1 = .ok (.getfield 22, 3) := by decide +kernel
theorem dX3_fillLetter_4 : decode cX3_fillLetter 4 = .ok (.iload_n 2, 1) := by decide +kernel
theorem dX3_fillLetter_5 : decode cX3_fillLetter 5 = .ok (.invokevirtual 77, 3) := by decide +kernel
theorem dX3_fillLetter_8 : decode cX3_fillLetter 8 = .ok (.istore_n 3, 1) := by decide +kernel
theorem dX3_fillLetter_9 : decode cX3_fillLetter 9 = .ok (.aload_n 0, 1) := by decide +kernel
theorem dX3_fillLetter_10 : decode cX3_fillLetter 10 = .ok (.getfield 22, 3) := by decide +kernel
theorem dX3_fillLetter_13 : decode cX3_fillLetter 13 = .ok (.iload_n 2, 1) := by decide +kernel
theorem dX3_fillLetter_14 : decode cX3_fillLetter 14 = .ok (.invokevirtual 81, 3) := by decide +kernel
theorem dX3_fillLetter_17 : decode cX3_fillLetter 17 = .ok (.istore 4, 2) := by decide +kernel
theorem dX3_fillLetter_19 : decode cX3_fillLetter 19 = .ok (.iload_n 3, 1) := by decide +kernel
theorem dX3_fillLetter_20 : decode cX3_fillLetter 20 = .ok (.iconst (-1), 1) := by decide +kernel
theorem dX3_fillLetter_21 : decode cX3_fillLetter 21 = .ok (.if_icmp .eq 36, 3) := by decide +kernel
theorem dX3_fillLetter_24 : decode cX3_fillLetter 24 = .ok (.aload_n 1, 1) := by decide +kernel
theorem dX3_fillLetter_25 : decode cX3_fillLetter 25 = .ok (.aload_n 0, 1) := by decide +kernel
theorem dX3_fillLetter_26 : decode cX3_fillLetter 26 = .ok (.getfield 15, 3) := by decide +kernel
theorem dX3_fillLetter_29 : decode cX3_fillLetter 29 = .ok (.getfield 41, 3) := by decide +kernel
theorem dX3_fillLetter_32 : decode cX3_fillLetter 32 = .ok (.aload_n 0, 1) := by decide +kernel
theorem dX3_fillLetter_33 : decode cX3_fillLetter 33 = .ok (.getfield 15, 3) := by decide +kernel
theorem dX3_fillLetter_36 : decode cX3_fillLetter 36 = .ok (.getfield 44, 3) := by decide +kernel
theorem dX3_fillLetter_39 : decode cX3_fillLetter 39 = .ok (.iload_n 3, 1) := by decide +kernel
theorem dX3_fillLetter_40 : decode cX3_fillLetter 40 = .ok (.iaload, 1) := by decide +kernel
theorem dX3_fillLetter_41 : decode cX3_fillLetter 41 = .ok (.aload_n 0, 1) := by decide +kernel
theorem dX3_fillLetter_42 : decode cX3_fillLetter 42 = .ok (.getfield 15, 3) := by decide +kernel
theorem dX3_fillLetter_45 : decode cX3_fillLetter 45 = .ok (.iload_n 3, 1) := by decide +kernel
theorem dX3_fillLetter_46 : decode cX3_fillLetter 46 = .ok (.iload 4, 2) := by decide +kernel
theorem dX3_fillLetter_48 : decode cX3_fillLetter 48 = .ok (.invokevirtual 84, 3) := by decide +kernel
theorem dX3_fillLetter_51 : decode cX3_fillLetter 51 = .ok (.invokevirtual 47, 3) := by decide +kernel
theorem dX3_fillLetter_54 : decode cX3_fillLetter 54 = .ok (.ifCond .eq 7, 3) := by decide +kernel
theorem dX3_fillLetter_57 : decode cX3_fillLetter 57 = .ok (.iconst 1, 1) := by decide +kernel
theorem dX3_fillLetter_58 : decode cX3_fillLetter 58 = .ok (.goto 4, 3) := by decide +kernel
theorem dX3_fillLetter_61 : decode cX3_fillLetter 61 = .ok (.iconst 0, 1) := by decide +kernel
theorem dX3_fillLetter_62 : decode cX3_fillLetter 62 = .ok (.ireturn, 1) := by decide +kernel
theorem dX3_dropRowsOfNone_0 : decode cX3_dropRowsOfNone 0 = .ok (.iconst 0, 1) := by decide +kernel
theorem dX3_dropRowsOfNone_1 : decode cX3_dropRowsOfNone 1 = .ok (.istore_n 1, 1) := by decide +kernel
theorem dX3_dropRowsOfNone_2 : decode cX3_dropRowsOfNone 2 = .ok (.iload_n 1, 1) := by decide +kernel
theorem dX3_dropRowsOfNone_3 : decode cX3_dropRowsOfNone 3 = .ok (.bipush 80, 2) := by decide +kernel
theorem dX3_dropRowsOfNone_5 : decode cX3_dropRowsOfNone 5 = .ok (.if_icmp .ge 16, 3) := by decide +kernel
theorem dX3_dropRowsOfNone_8 : decode cX3_dropRowsOfNone 8 = .ok (.aload_n 0, 1) := by decide +kernel
theorem dX3_dropRowsOfNone_9 : decode cX3_dropRowsOfNone 9 = .ok (.getfield 9, 3) := by decide +kernel
theorem dX3_dropRowsOfNone_12 : decode cX3_dropRowsOfNone 12 = .ok (.iload_n 1, 1) := by decide +kernel
theorem dX3_dropRowsOfNone_13 : decode cX3_dropRowsOfNone 13 = .ok (.iconst 0, 1) := by decide +kernel
theorem dX3_dropRowsOfNone_14 : decode cX3_dropRowsOfNone 14 = .ok (.bastore, 1) := by decide +kernel
theorem dX3_dropRowsOfNone_15 : decode cX3_dropRowsOfNone 15 = .ok (.iinc 1 1, 3) := by decide +kernel
theorem dX3_dropRowsOfNone_18 : decode cX3_dropRowsOfNone 18 = .ok (.goto (-16), 3) := by decide +kernel
theorem dX3_dropRowsOfNone_21 : decode cX3_dropRowsOfNone 21 = .ok (.iconst 0, 1) := by decide +kernel
theorem dX3_dropRowsOfNone_22 : decode cX3_dropRowsOfNone 22 = .ok (.istore_n 1, 1) := by decide +kernel
theorem dX3_dropRowsOfNone_23 : decode cX3_dropRowsOfNone 23 = .ok (.iload_n 1, 1) := by decide +kernel
theorem dX3_dropRowsOfNone_24 : decode cX3_dropRowsOfNone 24 = .ok (.aload_n 0, 1) := by decide +kernel
theorem dX3_dropRowsOfNone_25 : decode cX3_dropRowsOfNone 25 = .ok (.getfield 19, 3) := by decide +kernel
theorem dX3_dropRowsOfNone_28 : decode cX3_dropRowsOfNone 28 = .ok (.getfield 87, 3) := by decide +kernel
theorem dX3_dropRowsOfNone_31 : decode cX3_dropRowsOfNone 31 = .ok (.if_icmp .ge 46, 3) := by decide +kernel
theorem dX3_dropRowsOfNone_34 : decode cX3_dropRowsOfNone 34 = .ok (.aload_n 0, 1) := by decide +kernel
theorem dX3_dropRowsOfNone_35 : decode cX3_dropRowsOfNone 35 = .ok (.getfield 19, 3) := by decide +kernel
theorem dX3_dropRowsOfNone_38 : decode cX3_dropRowsOfNone 38 = .ok (.getfield 90, 3) := by decide +kernel
theorem dX3_dropRowsOfNone_41 : decode cX3_dropRowsOfNone 41 = .ok (.iload_n 1, 1) := by decide +kernel
theorem dX3_dropRowsOfNone_42 : decode cX3_dropRowsOfNone 42 = .ok (.iaload, 1) := by decide +kernel
theorem dX3_dropRowsOfNone_43 : decode cX3_dropRowsOfNone 43 = .ok (.iconst 2, 1) := by decide +kernel
theorem dX3_dropRowsOfNone_44 : decode cX3_dropRowsOfNone 44 = .ok (.if_icmp .ne 27, 3) := by decide +kernel
theorem dX3_dropRowsOfNone_47 : decode cX3_dropRowsOfNone 47 = .ok (.aload_n 0, 1) := by decide +kernel
theorem dX3_dropRowsOfNone_48 : decode cX3_dropRowsOfNone 48 = .ok (.getfield 22, 3) := by decide +kernel
theorem dX3_dropRowsOfNone_51 : decode cX3_dropRowsOfNone 51 = .ok (.aload_n 0, 1) := by decide +kernel
theorem dX3_dropRowsOfNone_52 : decode cX3_dropRowsOfNone 52 = .ok (.getfield 19, 3) := by decide +kernel
theorem dX3_dropRowsOfNone_55 : decode cX3_dropRowsOfNone 55 = .ok (.getfield 93, 3) := by decide +kernel
theorem dX3_dropRowsOfNone_58 : decode cX3_dropRowsOfNone 58 = .ok (.iload_n 1, 1) := by decide +kernel
theorem dX3_dropRowsOfNone_59 : decode cX3_dropRowsOfNone 59 = .ok (.iaload, 1) := by decide +kernel
theorem dX3_dropRowsOfNone_60 : decode cX3_dropRowsOfNone 60 = .ok (.invokevirtual 81, 3) := by decide +kernel
theorem dX3_dropRowsOfNone_63 : decode cX3_dropRowsOfNone 63 = .ok (.ifCond .ne 8, 3) := by decide +kernel
theorem dX3_dropRowsOfNone_66 : decode cX3_dropRowsOfNone 66 = .ok (.aload_n 0, 1) := by decide +kernel
theorem dX3_dropRowsOfNone_67 : decode cX3_dropRowsOfNone 67 = .ok (.iload_n 1, 1) := by decide +kernel
theorem dX3_dropRowsOfNone_68 : decode cX3_dropRowsOfNone 68 = .ok (.invokevirtual 96, 3) := by decide +kernel
theorem dX3_dropRowsOfNone_71 : decode cX3_dropRowsOfNone 71 = .ok (.iinc 1 1, 3) := by decide +kernel
theorem dX3_dropRowsOfNone_74 : decode cX3_dropRowsOfNone 74 = .ok (.goto (-51), 3) := by decide +kernel
theorem dX3_dropRowsOfNone_77 : decode cX3_dropRowsOfNone 77 = .ok (.return_, 1) := by decide +kernel
theorem dX3_dropRow_0 : decode cX3_dropRow 0 = .ok (.iload_n 1, 1) := by decide +kernel
theorem dX3_dropRow_1 : decode cX3_dropRow 1 = .ok (.iconst 1, 1) := by decide +kernel
theorem dX3_dropRow_2 : decode cX3_dropRow 2 = .ok (.iadd, 1) := by decide +kernel
theorem dX3_dropRow_3 : decode cX3_dropRow 3 = .ok (.istore_n 2, 1) := by decide +kernel
theorem dX3_dropRow_4 : decode cX3_dropRow 4 = .ok (.iload_n 2, 1) := by decide +kernel
theorem dX3_dropRow_5 : decode cX3_dropRow 5 = .ok (.aload_n 0, 1) := by decide +kernel
theorem dX3_dropRow_6 : decode cX3_dropRow 6 = .ok (.getfield 19, 3) := by decide +kernel
theorem dX3_dropRow_9 : decode cX3_dropRow 9 = .ok (.getfield 87, 3) := by decide +kernel
theorem dX3_dropRow_12 : decode cX3_dropRow 12 = .ok (.if_icmp .ge 47, 3) := by decide +kernel
theorem dX3_dropRow_15 : decode cX3_dropRow 15 = .ok (.aload_n 0, 1) := by decide +kernel
theorem dX3_dropRow_16 : decode cX3_dropRow 16 = .ok (.getfield 19, 3) := by decide +kernel
theorem dX3_dropRow_19 : decode cX3_dropRow 19 = .ok (.getfield 100, 3) := by decide +kernel
theorem dX3_dropRow_22 : decode cX3_dropRow 22 = .ok (.iload_n 2, 1) := by decide +kernel
theorem dX3_dropRow_23 : decode cX3_dropRow 23 = .ok (.iaload, 1) := by decide +kernel
theorem dX3_dropRow_24 : decode cX3_dropRow 24 = .ok (.aload_n 0, 1) := by decide +kernel
theorem dX3_dropRow_25 : decode cX3_dropRow 25 = .ok (.getfield 19, 3) := by decide +kernel
theorem dX3_dropRow_28 : decode cX3_dropRow 28 = .ok (.getfield 100, 3) := by decide +kernel
theorem dX3_dropRow_31 : decode cX3_dropRow 31 = .ok (.iload_n 1, 1) := by decide +kernel
theorem dX3_dropRow_32 : decode cX3_dropRow 32 = .ok (.iaload, 1) := by decide +kernel
theorem dX3_dropRow_33 : decode cX3_dropRow 33 = .ok (.if_icmp .ne 26, 3) := by decide +kernel
theorem dX3_dropRow_36 : decode cX3_dropRow 36 = .ok (.aload_n 0, 1) := by decide +kernel
theorem dX3_dropRow_37 : decode cX3_dropRow 37 = .ok (.aload_n 0, 1) := by decide +kernel
theorem dX3_dropRow_38 : decode cX3_dropRow 38 = .ok (.getfield 19, 3) := by decide +kernel
theorem dX3_dropRow_41 : decode cX3_dropRow 41 = .ok (.getfield 44, 3) := by decide +kernel
theorem dX3_dropRow_44 : decode cX3_dropRow 44 = .ok (.iload_n 1, 1) := by decide +kernel
theorem dX3_dropRow_45 : decode cX3_dropRow 45 = .ok (.iaload, 1) := by decide +kernel
theorem dX3_dropRow_46 : decode cX3_dropRow 46 = .ok (.aload_n 0, 1) := by decide +kernel
theorem dX3_dropRow_47 : decode cX3_dropRow 47 = .ok (.getfield 19, 3) := by decide +kernel
theorem dX3_dropRow_50 : decode cX3_dropRow 50 = .ok (.getfield 44, 3) := by decide +kernel
theorem dX3_dropRow_53 : decode cX3_dropRow 53 = .ok (.iload_n 2, 1) := by decide +kernel
theorem dX3_dropRow_54 : decode cX3_dropRow 54 = .ok (.iaload, 1) := by decide +kernel
theorem dX3_dropRow_55 : decode cX3_dropRow 55 = .ok (.invokevirtual 103, 3) := by decide +kernel
theorem dX3_dropRow_58 : decode cX3_dropRow 58 = .ok (.return_, 1) := by decide +kernel
theorem dX3_dropRow_59 : decode cX3_dropRow 59 = .ok (.aload_n 0, 1) := by decide +kernel
theorem dX3_dropRow_60 : decode cX3_dropRow 60 = .ok (.iload_n 1, 1) := by decide +kernel
theorem dX3_dropRow_61 : decode cX3_dropRow 61 = .ok (.invokevirtual 107, 3) := by decide +kernel
theorem dX3_dropRow_64 : decode cX3_dropRow 64 = .ok (.istore_n 3, 1) := by decide +kernel
theorem dX3_dropRow_65 : decode cX3_dropRow 65 = .ok (.aload_n 0, 1) := by decide +kernel
theorem dX3_dropRow_66 : decode cX3_dropRow 66 = .ok (.iload_n 3, 1) := by decide +kernel
theorem dX3_dropRow_67 : decode cX3_dropRow 67 = .ok (.iconst (-1), 1) := by decide +kernel
theorem dX3_dropRow_68 : decode cX3_dropRow 68 = .ok (.if_icmp .ne 15, 3) := by decide +kernel
theorem dX3_dropRow_71 : decode cX3_dropRow 71 = .ok (.aload_n 0, 1) := by decide +kernel
theorem dX3_dropRow_72 : decode cX3_dropRow 72 = .ok (.getfield 19, 3) := by decide +kernel
theorem dX3_dropRow_75 : decode cX3_dropRow 75 = .ok (.getfield 44, 3) := by decide +kernel
theorem dX3_dropRow_78 : decode cX3_dropRow 78 = .ok (.iload_n 1, 1) := by decide +kernel
theorem dX3_dropRow_79 : decode cX3_dropRow 79 = .ok (.iaload, 1) := by decide +kernel
theorem dX3_dropRow_80 : decode cX3_dropRow 80 = .ok (.goto 12, 3) := by decide +kernel
theorem dX3_dropRow_83 : decode cX3_dropRow 83 = .ok (.aload_n 0, 1) := by decide +kernel
theorem dX3_dropRow_84 : decode cX3_dropRow 84 = .ok (.getfield 19, 3) := by decide +kernel
theorem dX3_dropRow_87 : decode cX3_dropRow 87 = .ok (.getfield 61, 3) := by decide +kernel
theorem dX3_dropRow_90 : decode cX3_dropRow 90 = .ok (.iload_n 3, 1) := by decide +kernel
theorem dX3_dropRow_91 : decode cX3_dropRow 91 = .ok (.iaload, 1) := by decide +kernel
theorem dX3_dropRow_92 : decode cX3_dropRow 92 = .ok (.aload_n 0, 1) := by decide +kernel
theorem dX3_dropRow_93 : decode cX3_dropRow 93 = .ok (.getfield 19, 3) := by decide +kernel
theorem dX3_dropRow_96 : decode cX3_dropRow 96 = .ok (.getfield 61, 3) := by decide +kernel
theorem dX3_dropRow_99 : decode cX3_dropRow 99 = .ok (.iload_n 1, 1) := by decide +kernel
theorem dX3_dropRow_100 : decode cX3_dropRow 100 = .ok (.iaload, 1) := by decide +kernel
theorem dX3_dropRow_101 : decode cX3_dropRow 101 = .ok (.invokevirtual 103, 3) := by decide +kernel
theorem dX3_dropRow_104 : decode cX3_dropRow 104 = .ok (.return_, 1) := by decide +kernel
theorem dX3_pieceAhead_0 : decode cX3_pieceAhead 0 = .ok (.iload_n 1, 1) := by decide +kernel
theorem dX3_pieceAhead_1 : decode cX3_pieceAhead 1 = .ok (.iconst 1, 1) := by decide +kernel
theorem dX3_pieceAhead_2 : decode cX3_pieceAhead 2 = .ok (.isub, 1) := by decide +kernel
theorem dX3_pieceAhead_3 : decode cX3_pieceAhead 3 = .ok (.istore_n 2, 1) := by decide +kernel
theorem dX3_pieceAhead_4 : decode cX3_pieceAhead 4 = .ok (.iload_n 2, 1) := by decide +kernel
theorem dX3_pieceAhead_5 : decode cX3_pieceAhead 5 = .ok (.ifCond .lt 49, 3) := by decide +kernel
theorem dX3_pieceAhead_8 : decode cX3_pieceAhead 8 = .ok (.aload_n 0, 1) := by decide +kernel
theorem dX3_pieceAhead_9 : decode cX3_pieceAhead 9 = .ok (.getfield 19, 3) := by decide +kernel
theorem dX3_pieceAhead_12 : decode cX3_pieceAhead 12 = .ok (.getfield 100, 3) := by decide +kernel
theorem dX3_pieceAhead_15 : decode cX3_pieceAhead 15 = .ok (.iload_n 2, 1) := by decide +kernel
theorem dX3_pieceAhead_16 : decode cX3_pieceAhead 16 = .ok (.iaload, 1) := by decide +kernel
theorem dX3_pieceAhead_17 : decode cX3_pieceAhead 17 = .ok (.aload_n 0, 1) := by decide +kernel
theorem dX3_pieceAhead_18 : decode cX3_pieceAhead 18 = .ok (.getfield 19, 3) := by decide +kernel
theorem dX3_pieceAhead_21 : decode cX3_pieceAhead 21 = .ok (.getfield 100, 3) := by decide +kernel
theorem dX3_pieceAhead_24 : decode cX3_pieceAhead 24 = .ok (.iload_n 1, 1) := by decide +kernel
theorem dX3_pieceAhead_25 : decode cX3_pieceAhead 25 = .ok (.iaload, 1) := by decide +kernel
theorem dX3_pieceAhead_26 : decode cX3_pieceAhead 26 = .ok (.if_icmp .ne 22, 3) := by decide +kernel
theorem dX3_pieceAhead_29 : decode cX3_pieceAhead 29 = .ok (.aload_n 0, 1) := by decide +kernel
theorem dX3_pieceAhead_30 : decode cX3_pieceAhead 30 = .ok (.getfield 9, 3) := by decide +kernel
theorem dX3_pieceAhead_33 : decode cX3_pieceAhead 33 = .ok (.aload_n 0, 1) := by decide +kernel
theorem dX3_pieceAhead_34 : decode cX3_pieceAhead 34 = .ok (.getfield 19, 3) := by decide +kernel
theorem dX3_pieceAhead_37 : decode cX3_pieceAhead 37 = .ok (.getfield 44, 3) := by decide +kernel
theorem dX3_pieceAhead_40 : decode cX3_pieceAhead 40 = .ok (.iload_n 2, 1) := by decide +kernel
theorem dX3_pieceAhead_41 : decode cX3_pieceAhead 41 = .ok (.iaload, 1) := by decide +kernel
theorem dX3_pieceAhead_42 : decode cX3_pieceAhead 42 = .ok (.baload, 1) := by decide +kernel
theorem dX3_pieceAhead_43 : decode cX3_pieceAhead 43 = .ok (.ifCond .ne 5, 3) := by decide +kernel
theorem dX3_pieceAhead_46 : decode cX3_pieceAhead 46 = .ok (.iload_n 2, 1) := by decide +kernel
theorem dX3_pieceAhead_47 : decode cX3_pieceAhead 47 = .ok (.ireturn, 1) := by decide +kernel
theorem dX3_pieceAhead_48 : decode cX3_pieceAhead 48 = .ok (.iinc 2 (-1), 3) := by decide +kernel
theorem dX3_pieceAhead_51 : decode cX3_pieceAhead 51 = .ok (.goto (-47), 3) := by decide +kernel
theorem dX3_pieceAhead_54 : decode cX3_pieceAhead 54 = .ok (.iconst (-1), 1) := by decide +kernel
theorem dX3_pieceAhead_55 : decode cX3_pieceAhead 55 = .ok (.ireturn, 1) := by decide +kernel
theorem dX3_dropBytes_0 : decode cX3_dropBytes 0 = .ok (.iload_n 1, 1) := by decide +kernel
theorem dX3_dropBytes_1 : decode cX3_dropBytes 1 = .ok (.istore_n 3, 1) := by decide +kernel
theorem dX3_dropBytes_2 : decode cX3_dropBytes 2 = .ok (.iload_n 3, 1) := by decide +kernel
theorem dX3_dropBytes_3 : decode cX3_dropBytes 3 = .ok (.iload_n 2, 1) := by decide +kernel
theorem dX3_dropBytes_4 : decode cX3_dropBytes 4 = .ok (.if_icmp .ge 22, 3) := by decide +kernel
theorem dX3_dropBytes_7 : decode cX3_dropBytes 7 = .ok (.iload_n 3, 1) := by decide +kernel
theorem dX3_dropBytes_8 : decode cX3_dropBytes 8 = .ok (.bipush 80, 2) := by decide +kernel
theorem dX3_dropBytes_10 : decode cX3_dropBytes 10 = .ok (.if_icmp .ge 16, 3) := by decide +kernel
theorem dX3_dropBytes_13 : decode cX3_dropBytes 13 = .ok (.aload_n 0, 1) := by decide +kernel
theorem dX3_dropBytes_14 : decode cX3_dropBytes 14 = .ok (.getfield 9, 3) := by decide +kernel
theorem dX3_dropBytes_17 : decode cX3_dropBytes 17 = .ok (.iload_n 3, 1) := by decide +kernel
theorem dX3_dropBytes_18 : decode cX3_dropBytes 18 = .ok (.iconst 1, 1) := by decide +kernel
theorem dX3_dropBytes_19 : decode cX3_dropBytes 19 = .ok (.bastore, 1) := by decide +kernel
theorem dX3_dropBytes_20 : decode cX3_dropBytes 20 = .ok (.iinc 3 1, 3) := by decide +kernel
theorem dX3_dropBytes_23 : decode cX3_dropBytes 23 = .ok (.goto (-21), 3) := by decide +kernel
theorem dX3_dropBytes_26 : decode cX3_dropBytes 26 = .ok (.return_, 1) := by decide +kernel
theorem dX4_init_0 : decode cX4_init 0 = .ok (.aload_n 0, 1) := by decide +kernel
theorem dX4_init_1 : decode cX4_init 1 = .ok (.invokespecial 3, 3) := by decide +kernel
theorem dX4_init_4 : decode cX4_init 4 = .ok (.return_, 1) := by decide +kernel
theorem dX4_readTree_0 : decode cX4_readTree 0 = .ok (.aload_n 0, 1) := by decide +kernel
theorem dX4_readTree_1 : decode cX4_readTree 1 = .ok (.aload_n 1, 1) := by decide +kernel
theorem dX4_readTree_2 : decode cX4_readTree 2 = .ok (.iload_n 2, 1) := by decide +kernel
theorem dX4_readTree_3 : decode cX4_readTree 3 = .ok (.invokevirtual 9, 3) := by decide +kernel
theorem dX4_readTree_6 : decode cX4_readTree 6 = .ok (.iconst 0, 1) := by decide +kernel
theorem dX4_readTree_7 : decode cX4_readTree 7 = .ok (.istore_n 3, 1) := by decide +kernel
theorem dX4_readTree_8 : decode cX4_readTree 8 = .ok (.iload_n 3, 1) := by decide +kernel
theorem dX4_readTree_9 : decode cX4_readTree 9 = .ok (.aload_n 1, 1) := by decide +kernel
theorem dX4_readTree_10 : decode cX4_readTree 10 = .ok (.getfield 15, 3) := by decide +kernel
theorem dX4_readTree_13 : decode cX4_readTree 13 = .ok (.if_icmp .gt 72, 3) := by decide +kernel
theorem dX4_readTree_16 : decode cX4_readTree 16 = .ok (.aload_n 0, 1) := by decide +kernel
theorem dX4_readTree_17 : decode cX4_readTree 17 = .ok (.aload_n 1, 1) := by decide +kernel
theorem dX4_readTree_18 : decode cX4_readTree 18 = .ok (.invokevirtual 21, 3) := by decide +kernel
theorem dX4_readTree_21 : decode cX4_readTree 21 = .ok (.aload_n 0, 1) := by decide +kernel
theorem dX4_readTree_22 : decode cX4_readTree 22 = .ok (.getfield 25, 3) := by decide +kernel
theorem dX4_readTree_25 : decode cX4_readTree 25 = .ok (.aload_n 1, 1) := by decide +kernel
theorem dX4_readTree_26 : decode cX4_readTree 26 = .ok (.getfield 15, 3) := by decide +kernel
theorem dX4_readTree_29 : decode cX4_readTree 29 = .ok (.if_icmp .lt 28, 3) := by decide +kernel
theorem dX4_readTree_32 : decode cX4_readTree 32 = .ok (.aload_n 0, 1) := by decide +kernel
theorem dX4_readTree_33 : decode cX4_readTree 33 = .ok (.getfield 28, 3) := by decide +kernel
theorem dX4_readTree_36 : decode cX4_readTree 36 = .ok (.iconst (-1), 1) := by decide +kernel
theorem dX4_readTree_37 : decode cX4_readTree 37 = .ok (.if_icmp .ne 15, 3) := by decide +kernel
theorem dX4_readTree_40 : decode cX4_readTree 40 = .ok (.aload_n 0, 1) := by decide +kernel
theorem dX4_readTree_41 : decode cX4_readTree 41 = .ok (.getfield 31, 3) := by decide +kernel
theorem dX4_readTree_44 : decode cX4_readTree 44 = .ok (.iconst 3, 1) := by decide +kernel
theorem dX4_readTree_45 : decode cX4_readTree 45 = .ok (.if_icmp .lt 7, 3) := by decide +kernel
theorem dX4_readTree_48 : decode cX4_readTree 48 = .ok (.iconst (-1), 1) := by decide +kernel
theorem dX4_readTree_49 : decode cX4_readTree 49 = .ok (.goto 7, 3) := by decide +kernel
theorem dX4_readTree_52 : decode cX4_readTree 52 = .ok (.aload_n 1, 1) := by decide +kernel
theorem dX4_readTree_53 : decode cX4_readTree 53 = .ok (.getfield 15, 3) := by decide +kernel
theorem dX4_readTree_56 : decode cX4_readTree 56 = .ok (.ireturn, 1) := by decide +kernel
theorem dX4_readTree_57 : decode cX4_readTree 57 = .ok (.aload_n 0, 1) := by decide +kernel
theorem dX4_readTree_58 : decode cX4_readTree 58 = .ok (.aload_n 1, 1) := by decide +kernel
theorem dX4_readTree_59 : decode cX4_readTree 59 = .ok (.aload_n 1, 1) := by decide +kernel
theorem dX4_readTree_60 : decode cX4_readTree 60 = .ok (.getfield 34, 3) := by decide +kernel
theorem dX4_readTree_63 : decode cX4_readTree 63 = .ok (.aload_n 0, 1) := by decide +kernel
theorem dX4_readTree_64 : decode cX4_readTree 64 = .ok (.getfield 25, 3) := by decide +kernel
theorem dX4_readTree_67 : decode cX4_readTree 67 = .ok (.iaload, 1) := by decide +kernel
theorem dX4_readTree_68 : decode cX4_readTree 68 = .ok (.invokevirtual 38, 3) := by decide +kernel
theorem dX4_readTree_71 : decode cX4_readTree 71 = .ok (.ifCond .ne 8, 3) := by decide +kernel
theorem dX4_readTree_74 : decode cX4_readTree 74 = .ok (.aload_n 0, 1) := by decide +kernel
theorem dX4_readTree_75 : decode cX4_readTree 75 = .ok (.getfield 25, 3) := by decide +kernel
theorem dX4_readTree_78 : decode cX4_readTree 78 = .ok (.ireturn, 1) := by decide +kernel
theorem dX4_readTree_79 : decode cX4_readTree 79 = .ok (.iinc 3 1, 3) := by decide +kernel
theorem dX4_readTree_82 : decode cX4_readTree 82 = .ok (.goto (-74), 3) := by decide +kernel
theorem dX4_readTree_85 : decode cX4_readTree 85 = .ok (.aload_n 0, 1) := by decide +kernel
theorem dX4_readTree_86 : decode cX4_readTree 86 = .ok (.getfield 25, 3) := by decide +kernel
theorem dX4_readTree_89 : decode cX4_readTree 89 = .ok (.ireturn, 1) := by decide +kernel
theorem dX4_start_0 : decode cX4_start 0 = .ok (.aload_n 0, 1) := by decide +kernel
theorem dX4_start_1 : decode cX4_start 1 = .ok (.iload_n 2, 1) := by decide +kernel
theorem dX4_start_2 : decode cX4_start 2 = .ok (.putfield 42, 3) := by decide +kernel
theorem dX4_start_5 : decode cX4_start 5 = .ok (.aload_n 0, 1) := by decide +kernel
theorem dX4_start_6 : decode cX4_start 6 = .ok (.iconst 0, 1) := by decide +kernel
theorem dX4_start_7 : decode cX4_start 7 = .ok (.putfield 25, 3) := by decide +kernel
theorem dX4_start_10 : decode cX4_start 10 = .ok (.aload_n 0, 1) := by decide +kernel
theorem dX4_start_11 : decode cX4_start 11 = .ok (.iconst 0, 1) := by decide +kernel
theorem dX4_start_12 : decode cX4_start 12 = .ok (.putfield 31, 3) := by decide +kernel
theorem dX4_start_15 : decode cX4_start 15 = .ok (.aload_n 0, 1) := by decide +kernel
theorem dX4_start_16 : decode cX4_start 16 = .ok (.iconst (-1), 1) := by decide +kernel
theorem dX4_start_17 : decode cX4_start 17 = .ok (.putfield 28, 3) := by decide +kernel
theorem dX4_start_20 : decode cX4_start 20 = .ok (.aload_n 0, 1) := by decide +kernel
theorem dX4_start_21 : decode cX4_start 21 = .ok (.iconst 0, 1) := by decide +kernel
theorem dX4_start_22 : decode cX4_start 22 = .ok (.putfield 45, 3) := by decide +kernel
theorem dX4_start_25 : decode cX4_start 25 = .ok (.aload_n 0, 1) := by decide +kernel
theorem dX4_start_26 : decode cX4_start 26 = .ok (.iconst 0, 1) := by decide +kernel
theorem dX4_start_27 : decode cX4_start 27 = .ok (.putfield 48, 3) := by decide +kernel
theorem dX4_start_30 : decode cX4_start 30 = .ok (.aload_n 0, 1) := by decide +kernel
theorem dX4_start_31 : decode cX4_start 31 = .ok (.iconst (-1), 1) := by decide +kernel
theorem dX4_start_32 : decode cX4_start 32 = .ok (.putfield 51, 3) := by decide +kernel
theorem dX4_start_35 : decode cX4_start 35 = .ok (.aload_n 0, 1) := by decide +kernel
theorem dX4_start_36 : decode cX4_start 36 = .ok (.iconst 0, 1) := by decide +kernel
theorem dX4_start_37 : decode cX4_start 37 = .ok (.putfield 54, 3) := by decide +kernel
theorem dX4_start_40 : decode cX4_start 40 = .ok (.aload_n 1, 1) := by decide +kernel
theorem dX4_start_41 : decode cX4_start 41 = .ok (.iconst 0, 1) := by decide +kernel
theorem dX4_start_42 : decode cX4_start 42 = .ok (.putfield 58, 3) := by decide +kernel
theorem dX4_start_45 : decode cX4_start 45 = .ok (.iconst 0, 1) := by decide +kernel
theorem dX4_start_46 : decode cX4_start 46 = .ok (.istore_n 3, 1) := by decide +kernel
theorem dX4_start_47 : decode cX4_start 47 = .ok (.iload_n 3, 1) := by decide +kernel
theorem dX4_start_48 : decode cX4_start 48 = .ok (.bipush 26, 2) := by decide +kernel
theorem dX4_start_50 : decode cX4_start 50 = .ok (.if_icmp .ge 16, 3) := by decide +kernel
theorem dX4_start_53 : decode cX4_start 53 = .ok (.aload_n 1, 1) := by decide +kernel
theorem dX4_start_54 : decode cX4_start 54 = .ok (.getfield 61, 3) := by decide +kernel
theorem dX4_start_57 : decode cX4_start 57 = .ok (.iload_n 3, 1) := by decide +kernel
theorem dX4_start_58 : decode cX4_start 58 = .ok (.iconst (-1), 1) := by decide +kernel
theorem dX4_start_59 : decode cX4_start 59 = .ok (.iastore, 1) := by decide +kernel
theorem dX4_start_60 : decode cX4_start 60 = .ok (.iinc 3 1, 3) := by decide +kernel
theorem dX4_start_63 : decode cX4_start 63 = .ok (.goto (-16), 3) := by decide +kernel
theorem dX4_start_66 : decode cX4_start 66 = .ok (.return_, 1) := by decide +kernel
theorem dX4_skipBlanks_0 : decode cX4_skipBlanks 0 = .ok (.aload_n 0, 1) := by decide +kernel
theorem dX4_skipBlanks_1 : decode cX4_skipBlanks 1 = .ok (.getfield 25, 3) := by decide +kernel
theorem dX4_skipBlanks_4 : decode cX4_skipBlanks 4 = .ok (.aload_n 1, 1) := by decide +kernel
theorem dX4_skipBlanks_5 : decode cX4_skipBlanks 5 = .ok (.getfield 15, 3) := by decide +kernel
theorem dX4_skipBlanks_8 : decode cX4_skipBlanks 8 = .ok (.if_icmp .ge 31, 3) := by decide +kernel
theorem dX4_skipBlanks_11 : decode cX4_skipBlanks 11 = .ok (.aload_n 1, 1) := by decide +kernel
theorem dX4_skipBlanks_12 : decode cX4_skipBlanks 12 = .ok (.getfield 34, 3) := by decide +kernel
theorem dX4_skipBlanks_15 : decode cX4_skipBlanks 15 = .ok (.aload_n 0, 1) := by decide +kernel
theorem dX4_skipBlanks_16 : decode cX4_skipBlanks 16 = .ok (.getfield 25, 3) := by decide +kernel
theorem dX4_skipBlanks_19 : decode cX4_skipBlanks 19 = .ok (.iaload, 1) := by decide +kernel
theorem dX4_skipBlanks_20 : decode cX4_skipBlanks 20 = .ok (.invokestatic 64, 3) := by decide +kernel
theorem dX4_skipBlanks_23 : decode cX4_skipBlanks 23 = .ok (.ifCond .eq 16, 3) := by decide +kernel
theorem dX4_skipBlanks_26 : decode cX4_skipBlanks 26 = .ok (.aload_n 0, 1) := by decide +kernel
theorem dX4_skipBlanks_27 : decode cX4_skipBlanks 27 = .ok (.dup, 1) := by decide +kernel
theorem dX4_skipBlanks_28 : decode cX4_skipBlanks 28 = .ok (.getfield 25, 3) := by decide +kernel
theorem dX4_skipBlanks_31 : decode cX4_skipBlanks 31 = .ok (.iconst 1, 1) := by decide +kernel
theorem dX4_skipBlanks_32 : decode cX4_skipBlanks 32 = .ok (.iadd, 1) := by decide +kernel
theorem dX4_skipBlanks_33 : decode cX4_skipBlanks 33 = .ok (.putfield 25, 3) := by decide +kernel
theorem dX4_skipBlanks_36 : decode cX4_skipBlanks 36 = .ok (.goto (-36), 3) := by decide +kernel
theorem dX4_skipBlanks_39 : decode cX4_skipBlanks 39 = .ok (.return_, 1) := by decide +kernel
theorem dX4_readToken_0 : decode cX4_readToken 0 = .ok (.aload_n 0, 1) := by decide +kernel
theorem dX4_readToken_1 : decode cX4_readToken 1 = .ok (.getfield 31, 3) := by decide +kernel
theorem dX4_readToken_4 : decode cX4_readToken 4 = .ok (.tableswitch 101 0 3 #[32, 39, 60, 80], 32) := by decide +kernel
theorem dX4_readToken_36 : decode cX4_readToken 36 = .ok (.aload_n 0, 1) := by decide +kernel
theorem dX4_readToken_37 : decode cX4_readToken 37 = .ok (.aload_n 1, 1) := by decide +kernel
theorem dX4_readToken_38 : decode cX4_readToken 38 = .ok (.iload_n 2, 1) := by decide +kernel
theorem dX4_readToken_39 : decode cX4_readToken 39 = .ok (.invokevirtual 68, 3) := by decide +kernel
theorem dX4_readToken_42 : decode cX4_readToken 42 = .ok (.ireturn, 1) := by decide +kernel
theorem dX4_readToken_43 : decode cX4_readToken 43 = .ok (.iload_n 2, 1) := by decide +kernel
theorem dX4_readToken_44 : decode cX4_readToken 44 = .ok (.bipush 41, 2) := by decide +kernel
theorem dX4_readToken_46 : decode cX4_readToken 46 = .ok (.if_icmp .ne 11, 3) := by decide +kernel
theorem dX4_readToken_49 : decode cX4_readToken 49 = .ok (.aload_n 0, 1) := by decide +kernel
theorem dX4_readToken_50 : decode cX4_readToken 50 = .ok (.aload_n 1, 1) := by decide +kernel
theorem dX4_readToken_51 : decode cX4_readToken 51 = .ok (.invokevirtual 71, 3) := by decide +kernel
theorem dX4_readToken_54 : decode cX4_readToken 54 = .ok (.goto 9, 3) := by decide +kernel
theorem dX4_readToken_57 : decode cX4_readToken 57 = .ok (.aload_n 0, 1) := by decide +kernel
theorem dX4_readToken_58 : decode cX4_readToken 58 = .ok (.aload_n 1, 1) := by decide +kernel
theorem dX4_readToken_59 : decode cX4_readToken 59 = .ok (.iload_n 2, 1) := by decide +kernel
theorem dX4_readToken_60 : decode cX4_readToken 60 = .ok (.invokevirtual 68, 3) := by decide +kernel
theorem dX4_readToken_63 : decode cX4_readToken 63 = .ok (.ireturn, 1) := by decide +kernel
theorem dX4_readToken_64 : decode cX4_readToken 64 = .ok (.iload_n 2, 1) := by decide +kernel
theorem dX4_readToken_65 : decode cX4_readToken 65 = .ok (.bipush 40, 2) := by decide +kernel
theorem dX4_readToken_67 : decode cX4_readToken 67 = .ok (.if_icmp .ne 15, 3) := by decide +kernel
theorem dX4_readToken_70 : decode cX4_readToken 70 = .ok (.aload_n 0, 1) := by decide +kernel
theorem dX4_readToken_71 : decode cX4_readToken 71 = .ok (.aload_n 1, 1) := by decide +kernel
theorem dX4_readToken_72 : decode cX4_readToken 72 = .ok (.invokevirtual 75, 3) := by decide +kernel
theorem dX4_readToken_75 : decode cX4_readToken 75 = .ok (.ifCond .eq 7, 3) := by decide +kernel
theorem dX4_readToken_78 : decode cX4_readToken 78 = .ok (.iconst 1, 1) := by decide +kernel
theorem dX4_readToken_79 : decode cX4_readToken 79 = .ok (.goto 4, 3) := by decide +kernel
theorem dX4_readToken_82 : decode cX4_readToken 82 = .ok (.iconst 0, 1) := by decide +kernel
theorem dX4_readToken_83 : decode cX4_readToken 83 = .ok (.ireturn, 1) := by decide +kernel
theorem dX4_readToken_84 : decode cX4_readToken 84 = .ok (.iload_n 2, 1) := by decide +kernel
theorem dX4_readToken_85 : decode cX4_readToken 85 = .ok (.bipush 40, 2) := by decide +kernel
theorem dX4_readToken_87 : decode cX4_readToken 87 = .ok (.if_icmp .ne 11, 3) := by decide +kernel
theorem dX4_readToken_90 : decode cX4_readToken 90 = .ok (.aload_n 0, 1) := by decide +kernel
theorem dX4_readToken_91 : decode cX4_readToken 91 = .ok (.aload_n 1, 1) := by decide +kernel
theorem dX4_readToken_92 : decode cX4_readToken 92 = .ok (.invokevirtual 75, 3) := by decide +kernel
theorem dX4_readToken_95 : decode cX4_readToken 95 = .ok (.goto 9, 3) := by decide +kernel
theorem dX4_readToken_98 : decode cX4_readToken 98 = .ok (.aload_n 0, 1) := by decide +kernel
theorem dX4_readToken_99 : decode cX4_readToken 99 = .ok (.aload_n 1, 1) := by decide +kernel
theorem dX4_readToken_100 : decode cX4_readToken 100 = .ok (.iload_n 2, 1) := by decide +kernel
theorem dX4_readToken_101 : decode cX4_readToken 101 = .ok (.invokevirtual 78, 3) := by decide +kernel
theorem dX4_readToken_104 : decode cX4_readToken 104 = .ok (.ireturn, 1) := by decide +kernel
theorem dX4_readToken_105 : decode cX4_readToken 105 = .ok (.aload_n 0, 1) := by decide +kernel
theorem dX4_readToken_106 : decode cX4_readToken 106 = .ok (.aload_n 1, 1) := by decide +kernel
theorem dX4_readToken_107 : decode cX4_readToken 107 = .ok (.iload_n 2, 1) := by decide +kernel
theorem dX4_readToken_108 : decode cX4_readToken 108 = .ok (.invokevirtual 78, 3) := by decide +kernel
theorem dX4_readToken_111 : decode cX4_readToken 111 = .ok (.ireturn, 1) := by decide +kernel
theorem dX4_readPiece_0 : decode cX4_readPiece 0 = .ok (.iload_n 2, 1) := by decide +kernel
theorem dX4_readPiece_1 : decode cX4_readPiece 1 = .ok (.invokestatic 81, 3) := by decide +kernel
theorem dX4_readPiece_4 : decode cX4_readPiece 4 = .ok (.ifCond .eq 9, 3) := by decide +kernel
theorem dX4_readPiece_7 : decode cX4_readPiece 7 = .ok (.aload_n 0, 1) := by decide +kernel
theorem dX4_readPiece_8 : decode cX4_readPiece 8 = .ok (.aload_n 1, 1) := by decide +kernel
theorem dX4_readPiece_9 : decode cX4_readPiece 9 = .ok (.invokevirtual 84, 3) := by decide +kernel
theorem dX4_readPiece_12 : decode cX4_readPiece 12 = .ok (.ireturn, 1) := by decide +kernel
theorem dX4_readPiece_13 : decode cX4_readPiece 13 = .ok (.iload_n 2, 1) := by decide +kernel
theorem dX4_readPiece_14 : decode cX4_readPiece 14 = .ok (.lookupswitch 109 #[(42, 56), (63, 34), (64, 79)], 34) := by decide +kernel
theorem dX4_readPiece_48 : decode cX4_readPiece 48 = .ok (.aload_n 0, 1) := by decide +kernel
theorem dX4_readPiece_49 : decode cX4_readPiece 49 = .ok (.getfield 42, 3) := by decide +kernel
theorem dX4_readPiece_52 : decode cX4_readPiece 52 = .ok (.ifCond .eq 16, 3) := by decide +kernel
theorem dX4_readPiece_55 : decode cX4_readPiece 55 = .ok (.aload_n 0, 1) := by decide +kernel
theorem dX4_readPiece_56 : decode cX4_readPiece 56 = .ok (.aload_n 1, 1) := by decide +kernel
theorem dX4_readPiece_57 : decode cX4_readPiece 57 = .ok (.iconst 1, 1) := by decide +kernel
theorem dX4_readPiece_58 : decode cX4_readPiece 58 = .ok (.invokevirtual 87, 3) := by decide +kernel
theorem dX4_readPiece_61 : decode cX4_readPiece 61 = .ok (.ifCond .eq 7, 3) := by decide +kernel
theorem dX4_readPiece_64 : decode cX4_readPiece 64 = .ok (.iconst 1, 1) := by decide +kernel
theorem dX4_readPiece_65 : decode cX4_readPiece 65 = .ok (.goto 4, 3) := by decide +kernel
theorem dX4_readPiece_68 : decode cX4_readPiece 68 = .ok (.iconst 0, 1) := by decide +kernel
theorem dX4_readPiece_69 : decode cX4_readPiece 69 = .ok (.ireturn, 1) := by decide +kernel
theorem dX4_readPiece_70 : decode cX4_readPiece 70 = .ok (.aload_n 0, 1) := by decide +kernel
theorem dX4_readPiece_71 : decode cX4_readPiece 71 = .ok (.aload_n 1, 1) := by decide +kernel
theorem dX4_readPiece_72 : decode cX4_readPiece 72 = .ok (.invokevirtual 90, 3) := by decide +kernel
theorem dX4_readPiece_75 : decode cX4_readPiece 75 = .ok (.ifCond .eq 16, 3) := by decide +kernel
theorem dX4_readPiece_78 : decode cX4_readPiece 78 = .ok (.aload_n 0, 1) := by decide +kernel
theorem dX4_readPiece_79 : decode cX4_readPiece 79 = .ok (.aload_n 1, 1) := by decide +kernel
theorem dX4_readPiece_80 : decode cX4_readPiece 80 = .ok (.iconst 2, 1) := by decide +kernel
theorem dX4_readPiece_81 : decode cX4_readPiece 81 = .ok (.invokevirtual 87, 3) := by decide +kernel
theorem dX4_readPiece_84 : decode cX4_readPiece 84 = .ok (.ifCond .eq 7, 3) := by decide +kernel
theorem dX4_readPiece_87 : decode cX4_readPiece 87 = .ok (.iconst 1, 1) := by decide +kernel
theorem dX4_readPiece_88 : decode cX4_readPiece 88 = .ok (.goto 4, 3) := by decide +kernel
theorem dX4_readPiece_91 : decode cX4_readPiece 91 = .ok (.iconst 0, 1) := by decide +kernel
theorem dX4_readPiece_92 : decode cX4_readPiece 92 = .ok (.ireturn, 1) := by decide +kernel
theorem dX4_readPiece_93 : decode cX4_readPiece 93 = .ok (.aload_n 0, 1) := by decide +kernel
theorem dX4_readPiece_94 : decode cX4_readPiece 94 = .ok (.getfield 42, 3) := by decide +kernel
theorem dX4_readPiece_97 : decode cX4_readPiece 97 = .ok (.iconst 1, 1) := by decide +kernel
theorem dX4_readPiece_98 : decode cX4_readPiece 98 = .ok (.if_icmp .ne 23, 3) := by decide +kernel
theorem dX4_readPiece_101 : decode cX4_readPiece 101 = .ok (.aload_n 0, 1) := by decide +kernel
theorem dX4_readPiece_102 : decode cX4_readPiece 102 = .ok (.getfield 51, 3) := by decide +kernel
theorem dX4_readPiece_105 : decode cX4_readPiece 105 = .ok (.iconst (-1), 1) := by decide +kernel
theorem dX4_readPiece_106 : decode cX4_readPiece 106 = .ok (.if_icmp .ne 15, 3) := by decide +kernel
theorem dX4_readPiece_109 : decode cX4_readPiece 109 = .ok (.aload_n 0, 1) := by decide +kernel
theorem dX4_readPiece_110 : decode cX4_readPiece 110 = .ok (.aload_n 1, 1) := by decide +kernel
theorem dX4_readPiece_111 : decode cX4_readPiece 111 = .ok (.invokevirtual 93, 3) := by decide +kernel
theorem dX4_readPiece_114 : decode cX4_readPiece 114 = .ok (.ifCond .eq 7, 3) := by decide +kernel
theorem dX4_readPiece_117 : decode cX4_readPiece 117 = .ok (.iconst 1, 1) := by decide +kernel
theorem dX4_readPiece_118 : decode cX4_readPiece 118 = .ok (.goto 4, 3) := by decide +kernel
theorem dX4_readPiece_121 : decode cX4_readPiece 121 = .ok (.iconst 0, 1) := by decide +kernel
theorem dX4_readPiece_122 : decode cX4_readPiece 122 = .ok (.ireturn, 1) := by decide +kernel
theorem dX4_readPiece_123 : decode cX4_readPiece 123 = .ok (.iconst 0, 1) := by decide +kernel
theorem dX4_readPiece_124 : decode cX4_readPiece 124 = .ok (.ireturn, 1) := by decide +kernel
theorem dX4_rowMayStand_0 : decode cX4_rowMayStand 0 = .ok (.aload_n 0, 1) := by decide +kernel
theorem dX4_rowMayStand_1 : decode cX4_rowMayStand 1 = .ok (.getfield 42, 3) := by decide +kernel
theorem dX4_rowMayStand_4 : decode cX4_rowMayStand 4 = .ok (.ifCond .eq 11, 3) := by decide +kernel
theorem dX4_rowMayStand_7 : decode cX4_rowMayStand 7 = .ok (.aload_n 0, 1) := by decide +kernel
theorem dX4_rowMayStand_8 : decode cX4_rowMayStand 8 = .ok (.aload_n 1, 1) := by decide +kernel
theorem dX4_rowMayStand_9 : decode cX4_rowMayStand 9 = .ok (.invokevirtual 96, 3) := by decide +kernel
theorem dX4_rowMayStand_12 : decode cX4_rowMayStand 12 = .ok (.ifCond .ne 5, 3) := by decide +kernel
theorem dX4_rowMayStand_15 : decode cX4_rowMayStand 15 = .ok (.iconst 0, 1) := by decide +kernel
theorem dX4_rowMayStand_16 : decode cX4_rowMayStand 16 = .ok (.ireturn, 1) := by decide +kernel
theorem dX4_rowMayStand_17 : decode cX4_rowMayStand 17 = .ok (.aload_n 0, 1) := by decide +kernel
theorem dX4_rowMayStand_18 : decode cX4_rowMayStand 18 = .ok (.getfield 42, 3) := by decide +kernel
theorem dX4_rowMayStand_21 : decode cX4_rowMayStand 21 = .ok (.iconst 2, 1) := by decide +kernel
theorem dX4_rowMayStand_22 : decode cX4_rowMayStand 22 = .ok (.if_icmp .eq 18, 3) := by decide +kernel
theorem dX4_rowMayStand_25 : decode cX4_rowMayStand 25 = .ok (.aload_n 0, 1) := by decide +kernel
theorem dX4_rowMayStand_26 : decode cX4_rowMayStand 26 = .ok (.getfield 48, 3) := by decide +kernel
theorem dX4_rowMayStand_29 : decode cX4_rowMayStand 29 = .ok (.iconst 2, 1) := by decide +kernel
theorem dX4_rowMayStand_30 : decode cX4_rowMayStand 30 = .ok (.if_icmp .ge 14, 3) := by decide +kernel
theorem dX4_rowMayStand_33 : decode cX4_rowMayStand 33 = .ok (.aload_n 0, 1) := by decide +kernel
theorem dX4_rowMayStand_34 : decode cX4_rowMayStand 34 = .ok (.getfield 54, 3) := by decide +kernel
theorem dX4_rowMayStand_37 : decode cX4_rowMayStand 37 = .ok (.ifCond .ne 7, 3) := by decide +kernel
theorem dX4_rowMayStand_40 : decode cX4_rowMayStand 40 = .ok (.iconst 1, 1) := by decide +kernel
theorem dX4_rowMayStand_41 : decode cX4_rowMayStand 41 = .ok (.goto 4, 3) := by decide +kernel
theorem dX4_rowMayStand_44 : decode cX4_rowMayStand 44 = .ok (.iconst 0, 1) := by decide +kernel
theorem dX4_rowMayStand_45 : decode cX4_rowMayStand 45 = .ok (.ireturn, 1) := by decide +kernel
theorem dX4_isWithinTerm_0 : decode cX4_isWithinTerm 0 = .ok (.aload_n 0, 1) := by decide +kernel
theorem dX4_isWithinTerm_1 : decode cX4_isWithinTerm 1 = .ok (.getfield 28, 3) := by decide +kernel
theorem dX4_isWithinTerm_4 : decode cX4_isWithinTerm 4 = .ok (.iconst (-1), 1) := by decide +kernel
theorem dX4_isWithinTerm_5 : decode cX4_isWithinTerm 5 = .ok (.if_icmp .eq 19, 3) := by decide +kernel
theorem dX4_isWithinTerm_8 : decode cX4_isWithinTerm 8 = .ok (.aload_n 1, 1) := by decide +kernel
theorem dX4_isWithinTerm_9 : decode cX4_isWithinTerm 9 = .ok (.getfield 99, 3) := by decide +kernel
theorem dX4_isWithinTerm_12 : decode cX4_isWithinTerm 12 = .ok (.aload_n 0, 1) := by decide +kernel
theorem dX4_isWithinTerm_13 : decode cX4_isWithinTerm 13 = .ok (.getfield 28, 3) := by decide +kernel
theorem dX4_isWithinTerm_16 : decode cX4_isWithinTerm 16 = .ok (.iaload, 1) := by decide +kernel
theorem dX4_isWithinTerm_17 : decode cX4_isWithinTerm 17 = .ok (.ifCond .ne 7, 3) := by decide +kernel
theorem dX4_isWithinTerm_20 : decode cX4_isWithinTerm 20 = .ok (.iconst 1, 1) := by decide +kernel
theorem dX4_isWithinTerm_21 : decode cX4_isWithinTerm 21 = .ok (.goto 4, 3) := by decide +kernel
theorem dX4_isWithinTerm_24 : decode cX4_isWithinTerm 24 = .ok (.iconst 0, 1) := by decide +kernel
theorem dX4_isWithinTerm_25 : decode cX4_isWithinTerm 25 = .ok (.ireturn, 1) := by decide +kernel
theorem dX4_readAtom_0 : decode cX4_readAtom 0 = .ok (.aload_n 0, 1) := by decide +kernel
theorem dX4_readAtom_1 : decode cX4_readAtom 1 = .ok (.getfield 25, 3) := by decide +kernel
theorem dX4_readAtom_4 : decode cX4_readAtom 4 = .ok (.iconst 1, 1) := by decide +kernel
theorem dX4_readAtom_5 : decode cX4_readAtom 5 = .ok (.iadd, 1) := by decide +kernel
theorem dX4_readAtom_6 : decode cX4_readAtom 6 = .ok (.istore_n 2, 1) := by decide +kernel
theorem dX4_readAtom_7 : decode cX4_readAtom 7 = .ok (.iload_n 2, 1) := by decide +kernel
theorem dX4_readAtom_8 : decode cX4_readAtom 8 = .ok (.aload_n 1, 1) := by decide +kernel
theorem dX4_readAtom_9 : decode cX4_readAtom 9 = .ok (.getfield 15, 3) := by decide +kernel
theorem dX4_readAtom_12 : decode cX4_readAtom 12 = .ok (.if_icmp .ge 21, 3) := by decide +kernel
theorem dX4_readAtom_15 : decode cX4_readAtom 15 = .ok (.aload_n 1, 1) := by decide +kernel
theorem dX4_readAtom_16 : decode cX4_readAtom 16 = .ok (.getfield 34, 3) := by decide +kernel
theorem dX4_readAtom_19 : decode cX4_readAtom 19 = .ok (.iload_n 2, 1) := by decide +kernel
theorem dX4_readAtom_20 : decode cX4_readAtom 20 = .ok (.iaload, 1) := by decide +kernel
theorem dX4_readAtom_21 : decode cX4_readAtom 21 = .ok (.invokestatic 81, 3) := by decide +kernel
theorem dX4_readAtom_24 : decode cX4_readAtom 24 = .ok (.ifCond .eq 9, 3) := by decide +kernel
theorem dX4_readAtom_27 : decode cX4_readAtom 27 = .ok (.iinc 2 1, 3) := by decide +kernel
theorem dX4_readAtom_30 : decode cX4_readAtom 30 = .ok (.goto (-23), 3) := by decide +kernel
theorem dX4_readAtom_33 : decode cX4_readAtom 33 = .ok (.aload_n 0, 1) := by decide +kernel
theorem dX4_readAtom_34 : decode cX4_readAtom 34 = .ok (.iconst 3, 1) := by decide +kernel
theorem dX4_readAtom_35 : decode cX4_readAtom 35 = .ok (.putfield 31, 3) := by decide +kernel
theorem dX4_readAtom_38 : decode cX4_readAtom 38 = .ok (.aload_n 0, 1) := by decide +kernel
theorem dX4_readAtom_39 : decode cX4_readAtom 39 = .ok (.aload_n 1, 1) := by decide +kernel
theorem dX4_readAtom_40 : decode cX4_readAtom 40 = .ok (.iconst 0, 1) := by decide +kernel
theorem dX4_readAtom_41 : decode cX4_readAtom 41 = .ok (.iload_n 2, 1) := by decide +kernel
theorem dX4_readAtom_42 : decode cX4_readAtom 42 = .ok (.invokevirtual 102, 3) := by decide +kernel
theorem dX4_readAtom_45 : decode cX4_readAtom 45 = .ok (.ireturn, 1) := by decide +kernel
theorem dX4_readLettered_0 : decode cX4_readLettered 0 = .ok (.aload_n 0, 1) := by decide +kernel
theorem dX4_readLettered_1 : decode cX4_readLettered 1 = .ok (.getfield 25, 3) := by decide +kernel
theorem dX4_readLettered_4 : decode cX4_readLettered 4 = .ok (.iconst 1, 1) := by decide +kernel
theorem dX4_readLettered_5 : decode cX4_readLettered 5 = .ok (.iadd, 1) := by decide +kernel
theorem dX4_readLettered_6 : decode cX4_readLettered 6 = .ok (.istore_n 3, 1) := by decide +kernel
theorem dX4_readLettered_7 : decode cX4_readLettered 7 = .ok (.iload_n 3, 1) := by decide +kernel
theorem dX4_readLettered_8 : decode cX4_readLettered 8 = .ok (.aload_n 1, 1) := by decide +kernel
theorem dX4_readLettered_9 : decode cX4_readLettered 9 = .ok (.getfield 15, 3) := by decide +kernel
theorem dX4_readLettered_12 : decode cX4_readLettered 12 = .ok (.if_icmp .ge 15, 3) := by decide +kernel
theorem dX4_readLettered_15 : decode cX4_readLettered 15 = .ok (.aload_n 1, 1) := by decide +kernel
theorem dX4_readLettered_16 : decode cX4_readLettered 16 = .ok (.getfield 34, 3) := by decide +kernel
theorem dX4_readLettered_19 : decode cX4_readLettered 19 = .ok (.iload_n 3, 1) := by decide +kernel
theorem dX4_readLettered_20 : decode cX4_readLettered 20 = .ok (.iaload, 1) := by decide +kernel
theorem dX4_readLettered_21 : decode cX4_readLettered 21 = .ok (.invokestatic 106, 3) := by decide +kernel
theorem dX4_readLettered_24 : decode cX4_readLettered 24 = .ok (.ifCond .ne 10, 3) := by decide +kernel
theorem dX4_readLettered_27 : decode cX4_readLettered 27 = .ok (.aload_n 0, 1) := by decide +kernel
end
section
theorem dX4_readLettered_28 : decode cX4_readLettered 28 = .ok (.iload_n 3, 1) := by decide +kernel
theorem dX4_readLettered_29 : decode cX4_readLettered 29 = .ok (.putfield 25, 3) := by decide +kernel
theorem dX4_readLettered_32 : decode cX4_readLettered 32 = .ok (.iconst 0, 1) := by decide +kernel
theorem dX4_readLettered_33 : decode cX4_readLettered 33 = .ok (.ireturn, 1) := by decide +kernel
theorem dX4_readLettered_34 : decode cX4_readLettered 34 = .ok (.aload_n 1, 1) := by decide +kernel
theorem dX4_readLettered_35 : decode cX4_readLettered 35 = .ok (.getfield 34, 3) := by decide +kernel
theorem dX4_readLettered_38 : decode cX4_readLettered 38 = .ok (.iload_n 3, 1) := by decide +kernel
theorem dX4_readLettered_39 : decode cX4_readLettered 39 = .ok (.iaload, 1) := by decide +kernel
theorem dX4_readLettered_40 : decode cX4_readLettered 40 = .ok (.bipush 97, 2) := by decide +kernel
theorem dX4_readLettered_42 : decode cX4_readLettered 42 = .ok (.isub, 1) := by decide +kernel
theorem dX4_readLettered_43 : decode cX4_readLettered 43 = .ok (.istore 4, 2) := by decide +kernel
theorem dX4_readLettered_45 : decode cX4_readLettered 45 = .ok (.aload_n 1, 1) := by decide +kernel
theorem dX4_readLettered_46 : decode cX4_readLettered 46 = .ok (.iload 4, 2) := by decide +kernel
theorem dX4_readLettered_48 : decode cX4_readLettered 48 = .ok (.invokevirtual 109, 3) := by decide +kernel
theorem dX4_readLettered_51 : decode cX4_readLettered 51 = .ok (.istore 5, 2) := by decide +kernel
theorem dX4_readLettered_53 : decode cX4_readLettered 53 = .ok (.iload 5, 2) := by decide +kernel
theorem dX4_readLettered_55 : decode cX4_readLettered 55 = .ok (.iconst (-1), 1) := by decide +kernel
theorem dX4_readLettered_56 : decode cX4_readLettered 56 = .ok (.if_icmp .eq 9, 3) := by decide +kernel
theorem dX4_readLettered_59 : decode cX4_readLettered 59 = .ok (.iload 5, 2) := by decide +kernel
theorem dX4_readLettered_61 : decode cX4_readLettered 61 = .ok (.iload_n 2, 1) := by decide +kernel
theorem dX4_readLettered_62 : decode cX4_readLettered 62 = .ok (.if_icmp .ne 15, 3) := by decide +kernel
theorem dX4_readLettered_65 : decode cX4_readLettered 65 = .ok (.aload_n 0, 1) := by decide +kernel
theorem dX4_readLettered_66 : decode cX4_readLettered 66 = .ok (.aload_n 1, 1) := by decide +kernel
theorem dX4_readLettered_67 : decode cX4_readLettered 67 = .ok (.iload_n 2, 1) := by decide +kernel
theorem dX4_readLettered_68 : decode cX4_readLettered 68 = .ok (.iload_n 3, 1) := by decide +kernel
theorem dX4_readLettered_69 : decode cX4_readLettered 69 = .ok (.iconst 1, 1) := by decide +kernel
theorem dX4_readLettered_70 : decode cX4_readLettered 70 = .ok (.iadd, 1) := by decide +kernel
theorem dX4_readLettered_71 : decode cX4_readLettered 71 = .ok (.invokevirtual 102, 3) := by decide +kernel
theorem dX4_readLettered_74 : decode cX4_readLettered 74 = .ok (.ifCond .ne 5, 3) := by decide +kernel
theorem dX4_readLettered_77 : decode cX4_readLettered 77 = .ok (.iconst 0, 1) := by decide +kernel
theorem dX4_readLettered_78 : decode cX4_readLettered 78 = .ok (.ireturn, 1) := by decide +kernel
theorem dX4_readLettered_79 : decode cX4_readLettered 79 = .ok (.aload_n 1, 1) := by decide +kernel
theorem dX4_readLettered_80 : decode cX4_readLettered 80 = .ok (.getfield 58, 3) := by decide +kernel
theorem dX4_readLettered_83 : decode cX4_readLettered 83 = .ok (.iconst 1, 1) := by decide +kernel
theorem dX4_readLettered_84 : decode cX4_readLettered 84 = .ok (.isub, 1) := by decide +kernel
theorem dX4_readLettered_85 : decode cX4_readLettered 85 = .ok (.istore 6, 2) := by decide +kernel
theorem dX4_readLettered_87 : decode cX4_readLettered 87 = .ok (.aload_n 1, 1) := by decide +kernel
theorem dX4_readLettered_88 : decode cX4_readLettered 88 = .ok (.getfield 113, 3) := by decide +kernel
theorem dX4_readLettered_91 : decode cX4_readLettered 91 = .ok (.iload 6, 2) := by decide +kernel
theorem dX4_readLettered_93 : decode cX4_readLettered 93 = .ok (.iload 4, 2) := by decide +kernel
theorem dX4_readLettered_95 : decode cX4_readLettered 95 = .ok (.iastore, 1) := by decide +kernel
theorem dX4_readLettered_96 : decode cX4_readLettered 96 = .ok (.iload 5, 2) := by decide +kernel
theorem dX4_readLettered_98 : decode cX4_readLettered 98 = .ok (.iconst (-1), 1) := by decide +kernel
theorem dX4_readLettered_99 : decode cX4_readLettered 99 = .ok (.if_icmp .ne 12, 3) := by decide +kernel
theorem dX4_readLettered_102 : decode cX4_readLettered 102 = .ok (.aload_n 1, 1) := by decide +kernel
theorem dX4_readLettered_103 : decode cX4_readLettered 103 = .ok (.getfield 61, 3) := by decide +kernel
theorem dX4_readLettered_106 : decode cX4_readLettered 106 = .ok (.iload 4, 2) := by decide +kernel
theorem dX4_readLettered_108 : decode cX4_readLettered 108 = .ok (.iload 6, 2) := by decide +kernel
theorem dX4_readLettered_110 : decode cX4_readLettered 110 = .ok (.iastore, 1) := by decide +kernel
theorem dX4_readLettered_111 : decode cX4_readLettered 111 = .ok (.iload_n 2, 1) := by decide +kernel
theorem dX4_readLettered_112 : decode cX4_readLettered 112 = .ok (.iconst 2, 1) := by decide +kernel
theorem dX4_readLettered_113 : decode cX4_readLettered 113 = .ok (.if_icmp .ne 13, 3) := by decide +kernel
theorem dX4_readLettered_116 : decode cX4_readLettered 116 = .ok (.aload_n 0, 1) := by decide +kernel
theorem dX4_readLettered_117 : decode cX4_readLettered 117 = .ok (.dup, 1) := by decide +kernel
theorem dX4_readLettered_118 : decode cX4_readLettered 118 = .ok (.getfield 48, 3) := by decide +kernel
theorem dX4_readLettered_121 : decode cX4_readLettered 121 = .ok (.iconst 1, 1) := by decide +kernel
theorem dX4_readLettered_122 : decode cX4_readLettered 122 = .ok (.iadd, 1) := by decide +kernel
theorem dX4_readLettered_123 : decode cX4_readLettered 123 = .ok (.putfield 48, 3) := by decide +kernel
theorem dX4_readLettered_126 : decode cX4_readLettered 126 = .ok (.aload_n 0, 1) := by decide +kernel
theorem dX4_readLettered_127 : decode cX4_readLettered 127 = .ok (.iconst 4, 1) := by decide +kernel
theorem dX4_readLettered_128 : decode cX4_readLettered 128 = .ok (.putfield 31, 3) := by decide +kernel
theorem dX4_readLettered_131 : decode cX4_readLettered 131 = .ok (.iconst 1, 1) := by decide +kernel
theorem dX4_readLettered_132 : decode cX4_readLettered 132 = .ok (.ireturn, 1) := by decide +kernel
theorem dX4_readDeep_0 : decode cX4_readDeep 0 = .ok (.aload_n 0, 1) := by decide +kernel
theorem dX4_readDeep_1 : decode cX4_readDeep 1 = .ok (.aload_n 1, 1) := by decide +kernel
theorem dX4_readDeep_2 : decode cX4_readDeep 2 = .ok (.getfield 58, 3) := by decide +kernel
theorem dX4_readDeep_5 : decode cX4_readDeep 5 = .ok (.putfield 51, 3) := by decide +kernel
theorem dX4_readDeep_8 : decode cX4_readDeep 8 = .ok (.aload_n 0, 1) := by decide +kernel
theorem dX4_readDeep_9 : decode cX4_readDeep 9 = .ok (.iconst 1, 1) := by decide +kernel
theorem dX4_readDeep_10 : decode cX4_readDeep 10 = .ok (.putfield 54, 3) := by decide +kernel
theorem dX4_readDeep_13 : decode cX4_readDeep 13 = .ok (.aload_n 0, 1) := by decide +kernel
theorem dX4_readDeep_14 : decode cX4_readDeep 14 = .ok (.iconst 2, 1) := by decide +kernel
theorem dX4_readDeep_15 : decode cX4_readDeep 15 = .ok (.putfield 31, 3) := by decide +kernel
theorem dX4_readDeep_18 : decode cX4_readDeep 18 = .ok (.aload_n 0, 1) := by decide +kernel
theorem dX4_readDeep_19 : decode cX4_readDeep 19 = .ok (.aload_n 1, 1) := by decide +kernel
theorem dX4_readDeep_20 : decode cX4_readDeep 20 = .ok (.iconst 3, 1) := by decide +kernel
theorem dX4_readDeep_21 : decode cX4_readDeep 21 = .ok (.aload_n 0, 1) := by decide +kernel
theorem dX4_readDeep_22 : decode cX4_readDeep 22 = .ok (.getfield 25, 3) := by decide +kernel
theorem dX4_readDeep_25 : decode cX4_readDeep 25 = .ok (.iconst 1, 1) := by decide +kernel
theorem dX4_readDeep_26 : decode cX4_readDeep 26 = .ok (.iadd, 1) := by decide +kernel
theorem dX4_readDeep_27 : decode cX4_readDeep 27 = .ok (.invokevirtual 102, 3) := by decide +kernel
theorem dX4_readDeep_30 : decode cX4_readDeep 30 = .ok (.ireturn, 1) := by decide +kernel
theorem dX4_addPiece_0 : decode cX4_addPiece 0 = .ok (.aload_n 1, 1) := by decide +kernel
theorem dX4_addPiece_1 : decode cX4_addPiece 1 = .ok (.getfield 58, 3) := by decide +kernel
theorem dX4_addPiece_4 : decode cX4_addPiece 4 = .ok (.istore 4, 2) := by decide +kernel
theorem dX4_addPiece_6 : decode cX4_addPiece 6 = .ok (.iload 4, 2) := by decide +kernel
theorem dX4_addPiece_8 : decode cX4_addPiece 8 = .ok (.bipush 120, 2) := by decide +kernel
theorem dX4_addPiece_10 : decode cX4_addPiece 10 = .ok (.if_icmp .lt 5, 3) := by decide +kernel
theorem dX4_addPiece_13 : decode cX4_addPiece 13 = .ok (.iconst 0, 1) := by decide +kernel
theorem dX4_addPiece_14 : decode cX4_addPiece 14 = .ok (.ireturn, 1) := by decide +kernel
theorem dX4_addPiece_15 : decode cX4_addPiece 15 = .ok (.aload_n 1, 1) := by decide +kernel
theorem dX4_addPiece_16 : decode cX4_addPiece 16 = .ok (.getfield 99, 3) := by decide +kernel
theorem dX4_addPiece_19 : decode cX4_addPiece 19 = .ok (.iload 4, 2) := by decide +kernel
theorem dX4_addPiece_21 : decode cX4_addPiece 21 = .ok (.iload_n 2, 1) := by decide +kernel
theorem dX4_addPiece_22 : decode cX4_addPiece 22 = .ok (.iastore, 1) := by decide +kernel
theorem dX4_addPiece_23 : decode cX4_addPiece 23 = .ok (.aload_n 1, 1) := by decide +kernel
theorem dX4_addPiece_24 : decode cX4_addPiece 24 = .ok (.getfield 116, 3) := by decide +kernel
theorem dX4_addPiece_27 : decode cX4_addPiece 27 = .ok (.iload 4, 2) := by decide +kernel
theorem dX4_addPiece_29 : decode cX4_addPiece 29 = .ok (.aload_n 0, 1) := by decide +kernel
theorem dX4_addPiece_30 : decode cX4_addPiece 30 = .ok (.getfield 25, 3) := by decide +kernel
theorem dX4_addPiece_33 : decode cX4_addPiece 33 = .ok (.iastore, 1) := by decide +kernel
theorem dX4_addPiece_34 : decode cX4_addPiece 34 = .ok (.aload_n 1, 1) := by decide +kernel
theorem dX4_addPiece_35 : decode cX4_addPiece 35 = .ok (.getfield 119, 3) := by decide +kernel
theorem dX4_addPiece_38 : decode cX4_addPiece 38 = .ok (.iload 4, 2) := by decide +kernel
theorem dX4_addPiece_40 : decode cX4_addPiece 40 = .ok (.iload_n 3, 1) := by decide +kernel
theorem dX4_addPiece_41 : decode cX4_addPiece 41 = .ok (.iastore, 1) := by decide +kernel
theorem dX4_addPiece_42 : decode cX4_addPiece 42 = .ok (.aload_n 1, 1) := by decide +kernel
theorem dX4_addPiece_43 : decode cX4_addPiece 43 = .ok (.getfield 122, 3) := by decide +kernel
theorem dX4_addPiece_46 : decode cX4_addPiece 46 = .ok (.iload 4, 2) := by decide +kernel
theorem dX4_addPiece_48 : decode cX4_addPiece 48 = .ok (.iload_n 3, 1) := by decide +kernel
theorem dX4_addPiece_49 : decode cX4_addPiece 49 = .ok (.iastore, 1) := by decide +kernel
theorem dX4_addPiece_50 : decode cX4_addPiece 50 = .ok (.aload_n 1, 1) := by decide +kernel
theorem dX4_addPiece_51 : decode cX4_addPiece 51 = .ok (.getfield 125, 3) := by decide +kernel
theorem dX4_addPiece_54 : decode cX4_addPiece 54 = .ok (.iload 4, 2) := by decide +kernel
theorem dX4_addPiece_56 : decode cX4_addPiece 56 = .ok (.aload_n 0, 1) := by decide +kernel
theorem dX4_addPiece_57 : decode cX4_addPiece 57 = .ok (.getfield 28, 3) := by decide +kernel
theorem dX4_addPiece_60 : decode cX4_addPiece 60 = .ok (.iastore, 1) := by decide +kernel
theorem dX4_addPiece_61 : decode cX4_addPiece 61 = .ok (.aload_n 1, 1) := by decide +kernel
theorem dX4_addPiece_62 : decode cX4_addPiece 62 = .ok (.getfield 128, 3) := by decide +kernel
theorem dX4_addPiece_65 : decode cX4_addPiece 65 = .ok (.iload 4, 2) := by decide +kernel
theorem dX4_addPiece_67 : decode cX4_addPiece 67 = .ok (.iconst (-1), 1) := by decide +kernel
theorem dX4_addPiece_68 : decode cX4_addPiece 68 = .ok (.iastore, 1) := by decide +kernel
theorem dX4_addPiece_69 : decode cX4_addPiece 69 = .ok (.aload_n 1, 1) := by decide +kernel
theorem dX4_addPiece_70 : decode cX4_addPiece 70 = .ok (.getfield 131, 3) := by decide +kernel
theorem dX4_addPiece_73 : decode cX4_addPiece 73 = .ok (.iload 4, 2) := by decide +kernel
theorem dX4_addPiece_75 : decode cX4_addPiece 75 = .ok (.iconst 1, 1) := by decide +kernel
theorem dX4_addPiece_76 : decode cX4_addPiece 76 = .ok (.iastore, 1) := by decide +kernel
theorem dX4_addPiece_77 : decode cX4_addPiece 77 = .ok (.aload_n 1, 1) := by decide +kernel
theorem dX4_addPiece_78 : decode cX4_addPiece 78 = .ok (.getfield 113, 3) := by decide +kernel
theorem dX4_addPiece_81 : decode cX4_addPiece 81 = .ok (.iload 4, 2) := by decide +kernel
theorem dX4_addPiece_83 : decode cX4_addPiece 83 = .ok (.iconst (-1), 1) := by decide +kernel
theorem dX4_addPiece_84 : decode cX4_addPiece 84 = .ok (.iastore, 1) := by decide +kernel
theorem dX4_addPiece_85 : decode cX4_addPiece 85 = .ok (.aload_n 0, 1) := by decide +kernel
theorem dX4_addPiece_86 : decode cX4_addPiece 86 = .ok (.getfield 28, 3) := by decide +kernel
theorem dX4_addPiece_89 : decode cX4_addPiece 89 = .ok (.iconst (-1), 1) := by decide +kernel
theorem dX4_addPiece_90 : decode cX4_addPiece 90 = .ok (.if_icmp .eq 28, 3) := by decide +kernel
theorem dX4_addPiece_93 : decode cX4_addPiece 93 = .ok (.aload_n 1, 1) := by decide +kernel
theorem dX4_addPiece_94 : decode cX4_addPiece 94 = .ok (.getfield 99, 3) := by decide +kernel
theorem dX4_addPiece_97 : decode cX4_addPiece 97 = .ok (.aload_n 0, 1) := by decide +kernel
theorem dX4_addPiece_98 : decode cX4_addPiece 98 = .ok (.getfield 28, 3) := by decide +kernel
theorem dX4_addPiece_101 : decode cX4_addPiece 101 = .ok (.iaload, 1) := by decide +kernel
theorem dX4_addPiece_102 : decode cX4_addPiece 102 = .ok (.ifCond .ne 16, 3) := by decide +kernel
theorem dX4_addPiece_105 : decode cX4_addPiece 105 = .ok (.aload_n 1, 1) := by decide +kernel
theorem dX4_addPiece_106 : decode cX4_addPiece 106 = .ok (.getfield 128, 3) := by decide +kernel
theorem dX4_addPiece_109 : decode cX4_addPiece 109 = .ok (.aload_n 0, 1) := by decide +kernel
theorem dX4_addPiece_110 : decode cX4_addPiece 110 = .ok (.getfield 28, 3) := by decide +kernel
theorem dX4_addPiece_113 : decode cX4_addPiece 113 = .ok (.dup2, 1) := by decide +kernel
theorem dX4_addPiece_114 : decode cX4_addPiece 114 = .ok (.iaload, 1) := by decide +kernel
theorem dX4_addPiece_115 : decode cX4_addPiece 115 = .ok (.iconst 1, 1) := by decide +kernel
theorem dX4_addPiece_116 : decode cX4_addPiece 116 = .ok (.iadd, 1) := by decide +kernel
theorem dX4_addPiece_117 : decode cX4_addPiece 117 = .ok (.iastore, 1) := by decide +kernel
theorem dX4_addPiece_118 : decode cX4_addPiece 118 = .ok (.aload_n 1, 1) := by decide +kernel
theorem dX4_addPiece_119 : decode cX4_addPiece 119 = .ok (.iload 4, 2) := by decide +kernel
theorem dX4_addPiece_121 : decode cX4_addPiece 121 = .ok (.iconst 1, 1) := by decide +kernel
theorem dX4_addPiece_122 : decode cX4_addPiece 122 = .ok (.iadd, 1) := by decide +kernel
theorem dX4_addPiece_123 : decode cX4_addPiece 123 = .ok (.putfield 58, 3) := by decide +kernel
theorem dX4_addPiece_126 : decode cX4_addPiece 126 = .ok (.aload_n 0, 1) := by decide +kernel
theorem dX4_addPiece_127 : decode cX4_addPiece 127 = .ok (.iload_n 3, 1) := by decide +kernel
theorem dX4_addPiece_128 : decode cX4_addPiece 128 = .ok (.putfield 25, 3) := by decide +kernel
theorem dX4_addPiece_131 : decode cX4_addPiece 131 = .ok (.iconst 1, 1) := by decide +kernel
theorem dX4_addPiece_132 : decode cX4_addPiece 132 = .ok (.ireturn, 1) := by decide +kernel
theorem dX4_readOpening_0 : decode cX4_readOpening 0 = .ok (.aload_n 0, 1) := by decide +kernel
theorem dX4_readOpening_1 : decode cX4_readOpening 1 = .ok (.getfield 45, 3) := by decide +kernel
theorem dX4_readOpening_4 : decode cX4_readOpening 4 = .ok (.bipush 12, 2) := by decide +kernel
theorem dX4_readOpening_6 : decode cX4_readOpening 6 = .ok (.if_icmp .ge 10, 3) := by decide +kernel
theorem dX4_readOpening_9 : decode cX4_readOpening 9 = .ok (.aload_n 1, 1) := by decide +kernel
theorem dX4_readOpening_10 : decode cX4_readOpening 10 = .ok (.getfield 58, 3) := by decide +kernel
theorem dX4_readOpening_13 : decode cX4_readOpening 13 = .ok (.ifCond .ne 5, 3) := by decide +kernel
theorem dX4_readOpening_16 : decode cX4_readOpening 16 = .ok (.iconst 0, 1) := by decide +kernel
theorem dX4_readOpening_17 : decode cX4_readOpening 17 = .ok (.ireturn, 1) := by decide +kernel
theorem dX4_readOpening_18 : decode cX4_readOpening 18 = .ok (.aload_n 0, 1) := by decide +kernel
theorem dX4_readOpening_19 : decode cX4_readOpening 19 = .ok (.aload_n 1, 1) := by decide +kernel
theorem dX4_readOpening_20 : decode cX4_readOpening 20 = .ok (.getfield 58, 3) := by decide +kernel
theorem dX4_readOpening_23 : decode cX4_readOpening 23 = .ok (.iconst 1, 1) := by decide +kernel
theorem dX4_readOpening_24 : decode cX4_readOpening 24 = .ok (.isub, 1) := by decide +kernel
theorem dX4_readOpening_25 : decode cX4_readOpening 25 = .ok (.putfield 28, 3) := by decide +kernel
theorem dX4_readOpening_28 : decode cX4_readOpening 28 = .ok (.aload_n 0, 1) := by decide +kernel
theorem dX4_readOpening_29 : decode cX4_readOpening 29 = .ok (.dup, 1) := by decide +kernel
theorem dX4_readOpening_30 : decode cX4_readOpening 30 = .ok (.getfield 45, 3) := by decide +kernel
theorem dX4_readOpening_33 : decode cX4_readOpening 33 = .ok (.iconst 1, 1) := by decide +kernel
theorem dX4_readOpening_34 : decode cX4_readOpening 34 = .ok (.iadd, 1) := by decide +kernel
theorem dX4_readOpening_35 : decode cX4_readOpening 35 = .ok (.putfield 45, 3) := by decide +kernel
theorem dX4_readOpening_38 : decode cX4_readOpening 38 = .ok (.aload_n 0, 1) := by decide +kernel
theorem dX4_readOpening_39 : decode cX4_readOpening 39 = .ok (.dup, 1) := by decide +kernel
theorem dX4_readOpening_40 : decode cX4_readOpening 40 = .ok (.getfield 25, 3) := by decide +kernel
theorem dX4_readOpening_43 : decode cX4_readOpening 43 = .ok (.iconst 1, 1) := by decide +kernel
theorem dX4_readOpening_44 : decode cX4_readOpening 44 = .ok (.iadd, 1) := by decide +kernel
theorem dX4_readOpening_45 : decode cX4_readOpening 45 = .ok (.putfield 25, 3) := by decide +kernel
theorem dX4_readOpening_48 : decode cX4_readOpening 48 = .ok (.aload_n 1, 1) := by decide +kernel
theorem dX4_readOpening_49 : decode cX4_readOpening 49 = .ok (.getfield 99, 3) := by decide +kernel
theorem dX4_readOpening_52 : decode cX4_readOpening 52 = .ok (.aload_n 0, 1) := by decide +kernel
theorem dX4_readOpening_53 : decode cX4_readOpening 53 = .ok (.getfield 28, 3) := by decide +kernel
theorem dX4_readOpening_56 : decode cX4_readOpening 56 = .ok (.iaload, 1) := by decide +kernel
theorem dX4_readOpening_57 : decode cX4_readOpening 57 = .ok (.ifCond .ne 21, 3) := by decide +kernel
theorem dX4_readOpening_60 : decode cX4_readOpening 60 = .ok (.aload_n 1, 1) := by decide +kernel
theorem dX4_readOpening_61 : decode cX4_readOpening 61 = .ok (.getfield 128, 3) := by decide +kernel
theorem dX4_readOpening_64 : decode cX4_readOpening 64 = .ok (.aload_n 0, 1) := by decide +kernel
theorem dX4_readOpening_65 : decode cX4_readOpening 65 = .ok (.getfield 28, 3) := by decide +kernel
theorem dX4_readOpening_68 : decode cX4_readOpening 68 = .ok (.iconst 0, 1) := by decide +kernel
theorem dX4_readOpening_69 : decode cX4_readOpening 69 = .ok (.iastore, 1) := by decide +kernel
theorem dX4_readOpening_70 : decode cX4_readOpening 70 = .ok (.aload_n 0, 1) := by decide +kernel
theorem dX4_readOpening_71 : decode cX4_readOpening 71 = .ok (.iconst 1, 1) := by decide +kernel
theorem dX4_readOpening_72 : decode cX4_readOpening 72 = .ok (.putfield 31, 3) := by decide +kernel
theorem dX4_readOpening_75 : decode cX4_readOpening 75 = .ok (.goto 8, 3) := by decide +kernel
theorem dX4_readOpening_78 : decode cX4_readOpening 78 = .ok (.aload_n 0, 1) := by decide +kernel
theorem dX4_readOpening_79 : decode cX4_readOpening 79 = .ok (.iconst 0, 1) := by decide +kernel
theorem dX4_readOpening_80 : decode cX4_readOpening 80 = .ok (.putfield 31, 3) := by decide +kernel
theorem dX4_readOpening_83 : decode cX4_readOpening 83 = .ok (.iconst 1, 1) := by decide +kernel
theorem dX4_readOpening_84 : decode cX4_readOpening 84 = .ok (.ireturn, 1) := by decide +kernel
theorem dX4_readBehindPiece_0 : decode cX4_readBehindPiece 0 = .ok (.iload_n 2, 1) := by decide +kernel
theorem dX4_readBehindPiece_1 : decode cX4_readBehindPiece 1 = .ok (.bipush 41, 2) := by decide +kernel
theorem dX4_readBehindPiece_3 : decode cX4_readBehindPiece 3 = .ok (.if_icmp .ne 9, 3) := by decide +kernel
theorem dX4_readBehindPiece_6 : decode cX4_readBehindPiece 6 = .ok (.aload_n 0, 1) := by decide +kernel
theorem dX4_readBehindPiece_7 : decode cX4_readBehindPiece 7 = .ok (.aload_n 1, 1) := by decide +kernel
theorem dX4_readBehindPiece_8 : decode cX4_readBehindPiece 8 = .ok (.invokevirtual 71, 3) := by decide +kernel
theorem dX4_readBehindPiece_11 : decode cX4_readBehindPiece 11 = .ok (.ireturn, 1) := by decide +kernel
theorem dX4_readBehindPiece_12 : decode cX4_readBehindPiece 12 = .ok (.iload_n 2, 1) := by decide +kernel
theorem dX4_readBehindPiece_13 : decode cX4_readBehindPiece 13 = .ok (.bipush 44, 2) := by decide +kernel
theorem dX4_readBehindPiece_15 : decode cX4_readBehindPiece 15 = .ok (.if_icmp .ne 11, 3) := by decide +kernel
theorem dX4_readBehindPiece_18 : decode cX4_readBehindPiece 18 = .ok (.aload_n 0, 1) := by decide +kernel
theorem dX4_readBehindPiece_19 : decode cX4_readBehindPiece 19 = .ok (.aload_n 1, 1) := by decide +kernel
theorem dX4_readBehindPiece_20 : decode cX4_readBehindPiece 20 = .ok (.invokevirtual 96, 3) := by decide +kernel
theorem dX4_readBehindPiece_23 : decode cX4_readBehindPiece 23 = .ok (.ifCond .ne 5, 3) := by decide +kernel
theorem dX4_readBehindPiece_26 : decode cX4_readBehindPiece 26 = .ok (.iconst 0, 1) := by decide +kernel
theorem dX4_readBehindPiece_27 : decode cX4_readBehindPiece 27 = .ok (.ireturn, 1) := by decide +kernel
theorem dX4_readBehindPiece_28 : decode cX4_readBehindPiece 28 = .ok (.aload_n 0, 1) := by decide +kernel
theorem dX4_readBehindPiece_29 : decode cX4_readBehindPiece 29 = .ok (.dup, 1) := by decide +kernel
theorem dX4_readBehindPiece_30 : decode cX4_readBehindPiece 30 = .ok (.getfield 25, 3) := by decide +kernel
theorem dX4_readBehindPiece_33 : decode cX4_readBehindPiece 33 = .ok (.iconst 1, 1) := by decide +kernel
theorem dX4_readBehindPiece_34 : decode cX4_readBehindPiece 34 = .ok (.iadd, 1) := by decide +kernel
theorem dX4_readBehindPiece_35 : decode cX4_readBehindPiece 35 = .ok (.putfield 25, 3) := by decide +kernel
theorem dX4_readBehindPiece_38 : decode cX4_readBehindPiece 38 = .ok (.aload_n 0, 1) := by decide +kernel
theorem dX4_readBehindPiece_39 : decode cX4_readBehindPiece 39 = .ok (.iconst 0, 1) := by decide +kernel
theorem dX4_readBehindPiece_40 : decode cX4_readBehindPiece 40 = .ok (.putfield 31, 3) := by decide +kernel
theorem dX4_readBehindPiece_43 : decode cX4_readBehindPiece 43 = .ok (.iconst 1, 1) := by decide +kernel
theorem dX4_readBehindPiece_44 : decode cX4_readBehindPiece 44 = .ok (.ireturn, 1) := by decide +kernel
theorem dX4_readClosing_0 : decode cX4_readClosing 0 = .ok (.aload_n 0, 1) := by decide +kernel
theorem dX4_readClosing_1 : decode cX4_readClosing 1 = .ok (.getfield 28, 3) := by decide +kernel
theorem dX4_readClosing_4 : decode cX4_readClosing 4 = .ok (.iconst (-1), 1) := by decide +kernel
theorem dX4_readClosing_5 : decode cX4_readClosing 5 = .ok (.if_icmp .ne 5, 3) := by decide +kernel
theorem dX4_readClosing_8 : decode cX4_readClosing 8 = .ok (.iconst 0, 1) := by decide +kernel
theorem dX4_readClosing_9 : decode cX4_readClosing 9 = .ok (.ireturn, 1) := by decide +kernel
theorem dX4_readClosing_10 : decode cX4_readClosing 10 = .ok (.aload_n 0, 1) := by decide +kernel
theorem dX4_readClosing_11 : decode cX4_readClosing 11 = .ok (.dup, 1) := by decide +kernel
theorem dX4_readClosing_12 : decode cX4_readClosing 12 = .ok (.getfield 25, 3) := by decide +kernel
theorem dX4_readClosing_15 : decode cX4_readClosing 15 = .ok (.iconst 1, 1) := by decide +kernel
theorem dX4_readClosing_16 : decode cX4_readClosing 16 = .ok (.iadd, 1) := by decide +kernel
theorem dX4_readClosing_17 : decode cX4_readClosing 17 = .ok (.putfield 25, 3) := by decide +kernel
theorem dX4_readClosing_20 : decode cX4_readClosing 20 = .ok (.aload_n 0, 1) := by decide +kernel
theorem dX4_readClosing_21 : decode cX4_readClosing 21 = .ok (.dup, 1) := by decide +kernel
theorem dX4_readClosing_22 : decode cX4_readClosing 22 = .ok (.getfield 45, 3) := by decide +kernel
theorem dX4_readClosing_25 : decode cX4_readClosing 25 = .ok (.iconst 1, 1) := by decide +kernel
theorem dX4_readClosing_26 : decode cX4_readClosing 26 = .ok (.isub, 1) := by decide +kernel
theorem dX4_readClosing_27 : decode cX4_readClosing 27 = .ok (.putfield 45, 3) := by decide +kernel
theorem dX4_readClosing_30 : decode cX4_readClosing 30 = .ok (.aload_n 1, 1) := by decide +kernel
theorem dX4_readClosing_31 : decode cX4_readClosing 31 = .ok (.getfield 122, 3) := by decide +kernel
theorem dX4_readClosing_34 : decode cX4_readClosing 34 = .ok (.aload_n 0, 1) := by decide +kernel
theorem dX4_readClosing_35 : decode cX4_readClosing 35 = .ok (.getfield 28, 3) := by decide +kernel
theorem dX4_readClosing_38 : decode cX4_readClosing 38 = .ok (.aload_n 0, 1) := by decide +kernel
theorem dX4_readClosing_39 : decode cX4_readClosing 39 = .ok (.getfield 25, 3) := by decide +kernel
theorem dX4_readClosing_42 : decode cX4_readClosing 42 = .ok (.iastore, 1) := by decide +kernel
theorem dX4_readClosing_43 : decode cX4_readClosing 43 = .ok (.aload_n 1, 1) := by decide +kernel
theorem dX4_readClosing_44 : decode cX4_readClosing 44 = .ok (.getfield 131, 3) := by decide +kernel
theorem dX4_readClosing_47 : decode cX4_readClosing 47 = .ok (.aload_n 0, 1) := by decide +kernel
theorem dX4_readClosing_48 : decode cX4_readClosing 48 = .ok (.getfield 28, 3) := by decide +kernel
theorem dX4_readClosing_51 : decode cX4_readClosing 51 = .ok (.aload_n 1, 1) := by decide +kernel
theorem dX4_readClosing_52 : decode cX4_readClosing 52 = .ok (.getfield 58, 3) := by decide +kernel
theorem dX4_readClosing_55 : decode cX4_readClosing 55 = .ok (.aload_n 0, 1) := by decide +kernel
theorem dX4_readClosing_56 : decode cX4_readClosing 56 = .ok (.getfield 28, 3) := by decide +kernel
theorem dX4_readClosing_59 : decode cX4_readClosing 59 = .ok (.isub, 1) := by decide +kernel
theorem dX4_readClosing_60 : decode cX4_readClosing 60 = .ok (.iastore, 1) := by decide +kernel
theorem dX4_readClosing_61 : decode cX4_readClosing 61 = .ok (.aload_n 0, 1) := by decide +kernel
theorem dX4_readClosing_62 : decode cX4_readClosing 62 = .ok (.getfield 28, 3) := by decide +kernel
theorem dX4_readClosing_65 : decode cX4_readClosing 65 = .ok (.aload_n 0, 1) := by decide +kernel
theorem dX4_readClosing_66 : decode cX4_readClosing 66 = .ok (.getfield 51, 3) := by decide +kernel
theorem dX4_readClosing_69 : decode cX4_readClosing 69 = .ok (.if_icmp .ne 8, 3) := by decide +kernel
theorem dX4_readClosing_72 : decode cX4_readClosing 72 = .ok (.aload_n 0, 1) := by decide +kernel
theorem dX4_readClosing_73 : decode cX4_readClosing 73 = .ok (.iconst 0, 1) := by decide +kernel
theorem dX4_readClosing_74 : decode cX4_readClosing 74 = .ok (.putfield 54, 3) := by decide +kernel
theorem dX4_readClosing_77 : decode cX4_readClosing 77 = .ok (.aload_n 0, 1) := by decide +kernel
theorem dX4_readClosing_78 : decode cX4_readClosing 78 = .ok (.aload_n 1, 1) := by decide +kernel
theorem dX4_readClosing_79 : decode cX4_readClosing 79 = .ok (.getfield 125, 3) := by decide +kernel
theorem dX4_readClosing_82 : decode cX4_readClosing 82 = .ok (.aload_n 0, 1) := by decide +kernel
theorem dX4_readClosing_83 : decode cX4_readClosing 83 = .ok (.getfield 28, 3) := by decide +kernel
theorem dX4_readClosing_86 : decode cX4_readClosing 86 = .ok (.iaload, 1) := by decide +kernel
theorem dX4_readClosing_87 : decode cX4_readClosing 87 = .ok (.putfield 28, 3) := by decide +kernel
theorem dX4_readClosing_90 : decode cX4_readClosing 90 = .ok (.aload_n 0, 1) := by decide +kernel
theorem dX4_readClosing_91 : decode cX4_readClosing 91 = .ok (.iconst 4, 1) := by decide +kernel
theorem dX4_readClosing_92 : decode cX4_readClosing 92 = .ok (.putfield 31, 3) := by decide +kernel
theorem dX4_readClosing_95 : decode cX4_readClosing 95 = .ok (.iconst 1, 1) := by decide +kernel
theorem dX4_readClosing_96 : decode cX4_readClosing 96 = .ok (.ireturn, 1) := by decide +kernel
theorem dX5_init_0 : decode cX5_init 0 = .ok (.aload_n 0, 1) := by decide +kernel
theorem dX5_init_1 : decode cX5_init 1 = .ok (.invokespecial 3, 3) := by decide +kernel
theorem dX5_init_4 : decode cX5_init 4 = .ok (.aload_n 0, 1) := by decide +kernel
theorem dX5_init_5 : decode cX5_init 5 = .ok (.sipush 240, 3) := by decide +kernel
theorem dX5_init_8 : decode cX5_init 8 = .ok (.newarray .int, 2) := by decide +kernel
theorem dX5_init_10 : decode cX5_init 10 = .ok (.putfield 9, 3) := by decide +kernel
theorem dX5_init_13 : decode cX5_init 13 = .ok (.aload_n 0, 1) := by decide +kernel
theorem dX5_init_14 : decode cX5_init 14 = .ok (.bipush 120, 2) := by decide +kernel
theorem dX5_init_16 : decode cX5_init 16 = .ok (.newarray .int, 2) := by decide +kernel
theorem dX5_init_18 : decode cX5_init 18 = .ok (.putfield 15, 3) := by decide +kernel
theorem dX5_init_21 : decode cX5_init 21 = .ok (.aload_n 0, 1) := by decide +kernel
theorem dX5_init_22 : decode cX5_init 22 = .ok (.bipush 120, 2) := by decide +kernel
theorem dX5_init_24 : decode cX5_init 24 = .ok (.newarray .int, 2) := by decide +kernel
theorem dX5_init_26 : decode cX5_init 26 = .ok (.putfield 18, 3) := by decide +kernel
theorem dX5_init_29 : decode cX5_init 29 = .ok (.aload_n 0, 1) := by decide +kernel
theorem dX5_init_30 : decode cX5_init 30 = .ok (.bipush 120, 2) := by decide +kernel
theorem dX5_init_32 : decode cX5_init 32 = .ok (.newarray .int, 2) := by decide +kernel
theorem dX5_init_34 : decode cX5_init 34 = .ok (.putfield 21, 3) := by decide +kernel
theorem dX5_init_37 : decode cX5_init 37 = .ok (.aload_n 0, 1) := by decide +kernel
theorem dX5_init_38 : decode cX5_init 38 = .ok (.bipush 120, 2) := by decide +kernel
theorem dX5_init_40 : decode cX5_init 40 = .ok (.newarray .int, 2) := by decide +kernel
theorem dX5_init_42 : decode cX5_init 42 = .ok (.putfield 24, 3) := by decide +kernel
theorem dX5_init_45 : decode cX5_init 45 = .ok (.aload_n 0, 1) := by decide +kernel
theorem dX5_init_46 : decode cX5_init 46 = .ok (.bipush 120, 2) := by decide +kernel
theorem dX5_init_48 : decode cX5_init 48 = .ok (.newarray .int, 2) := by decide +kernel
theorem dX5_init_50 : decode cX5_init 50 = .ok (.putfield 27, 3) := by decide +kernel
theorem dX5_init_53 : decode cX5_init 53 = .ok (.aload_n 0, 1) := by decide +kernel
theorem dX5_init_54 : decode cX5_init 54 = .ok (.bipush 120, 2) := by decide +kernel
theorem dX5_init_56 : decode cX5_init 56 = .ok (.newarray .int, 2) := by decide +kernel
theorem dX5_init_58 : decode cX5_init 58 = .ok (.putfield 30, 3) := by decide +kernel
theorem dX5_init_61 : decode cX5_init 61 = .ok (.aload_n 0, 1) := by decide +kernel
theorem dX5_init_62 : decode cX5_init 62 = .ok (.bipush 120, 2) := by decide +kernel
theorem dX5_init_64 : decode cX5_init 64 = .ok (.newarray .int, 2) := by decide +kernel
theorem dX5_init_66 : decode cX5_init 66 = .ok (.putfield 33, 3) := by decide +kernel
theorem dX5_init_69 : decode cX5_init 69 = .ok (.aload_n 0, 1) := by decide +kernel
theorem dX5_init_70 : decode cX5_init 70 = .ok (.bipush 120, 2) := by decide +kernel
theorem dX5_init_72 : decode cX5_init 72 = .ok (.newarray .int, 2) := by decide +kernel
theorem dX5_init_74 : decode cX5_init 74 = .ok (.putfield 36, 3) := by decide +kernel
theorem dX5_init_77 : decode cX5_init 77 = .ok (.aload_n 0, 1) := by decide +kernel
theorem dX5_init_78 : decode cX5_init 78 = .ok (.bipush 26, 2) := by decide +kernel
theorem dX5_init_80 : decode cX5_init 80 = .ok (.newarray .int, 2) := by decide +kernel
theorem dX5_init_82 : decode cX5_init 82 = .ok (.putfield 39, 3) := by decide +kernel
theorem dX5_init_85 : decode cX5_init 85 = .ok (.aload_n 0, 1) := by decide +kernel
theorem dX5_init_86 : decode cX5_init 86 = .ok (.bipush 120, 2) := by decide +kernel
theorem dX5_init_88 : decode cX5_init 88 = .ok (.newarray .int, 2) := by decide +kernel
theorem dX5_init_90 : decode cX5_init 90 = .ok (.putfield 42, 3) := by decide +kernel
theorem dX5_init_93 : decode cX5_init 93 = .ok (.return_, 1) := by decide +kernel
theorem dX5_load_0 : decode cX5_load 0 = .ok (.aload_n 0, 1) := by decide +kernel
theorem dX5_load_1 : decode cX5_load 1 = .ok (.iconst 0, 1) := by decide +kernel
theorem dX5_load_2 : decode cX5_load 2 = .ok (.putfield 45, 3) := by decide +kernel
theorem dX5_load_5 : decode cX5_load 5 = .ok (.aload_n 0, 1) := by decide +kernel
theorem dX5_load_6 : decode cX5_load 6 = .ok (.aload_n 1, 1) := by decide +kernel
theorem dX5_load_7 : decode cX5_load 7 = .ok (.iconst 0, 1) := by decide +kernel
theorem dX5_load_8 : decode cX5_load 8 = .ok (.iload_n 2, 1) := by decide +kernel
theorem dX5_load_9 : decode cX5_load 9 = .ok (.invokevirtual 49, 3) := by decide +kernel
theorem dX5_load_12 : decode cX5_load 12 = .ok (.pop, 1) := by decide +kernel
theorem dX5_load_13 : decode cX5_load 13 = .ok (.return_, 1) := by decide +kernel
theorem dX5_copyOf_0 : decode cX5_copyOf 0 = .ok (.aload_n 0, 1) := by decide +kernel
theorem dX5_copyOf_1 : decode cX5_copyOf 1 = .ok (.aload_n 1, 1) := by decide +kernel
theorem dX5_copyOf_2 : decode cX5_copyOf 2 = .ok (.getfield 45, 3) := by decide +kernel
theorem dX5_copyOf_5 : decode cX5_copyOf 5 = .ok (.putfield 45, 3) := by decide +kernel
theorem dX5_copyOf_8 : decode cX5_copyOf 8 = .ok (.aload_n 0, 1) := by decide +kernel
theorem dX5_copyOf_9 : decode cX5_copyOf 9 = .ok (.aload_n 1, 1) := by decide +kernel
theorem dX5_copyOf_10 : decode cX5_copyOf 10 = .ok (.getfield 53, 3) := by decide +kernel
theorem dX5_copyOf_13 : decode cX5_copyOf 13 = .ok (.putfield 53, 3) := by decide +kernel
theorem dX5_copyOf_16 : decode cX5_copyOf 16 = .ok (.aload_n 1, 1) := by decide +kernel
theorem dX5_copyOf_17 : decode cX5_copyOf 17 = .ok (.getfield 9, 3) := by decide +kernel
theorem dX5_copyOf_20 : decode cX5_copyOf 20 = .ok (.iconst 0, 1) := by decide +kernel
theorem dX5_copyOf_21 : decode cX5_copyOf 21 = .ok (.aload_n 0, 1) := by decide +kernel
theorem dX5_copyOf_22 : decode cX5_copyOf 22 = .ok (.getfield 9, 3) := by decide +kernel
theorem dX5_copyOf_25 : decode cX5_copyOf 25 = .ok (.iconst 0, 1) := by decide +kernel
theorem dX5_copyOf_26 : decode cX5_copyOf 26 = .ok (.aload_n 0, 1) := by decide +kernel
theorem dX5_copyOf_27 : decode cX5_copyOf 27 = .ok (.getfield 45, 3) := by decide +kernel
theorem dX5_copyOf_30 : decode cX5_copyOf 30 = .ok (.invokestatic 56, 3) := by decide +kernel
theorem dX5_copyOf_33 : decode cX5_copyOf 33 = .ok (.aload_n 1, 1) := by decide +kernel
theorem dX5_copyOf_34 : decode cX5_copyOf 34 = .ok (.getfield 15, 3) := by decide +kernel
theorem dX5_copyOf_37 : decode cX5_copyOf 37 = .ok (.iconst 0, 1) := by decide +kernel
theorem dX5_copyOf_38 : decode cX5_copyOf 38 = .ok (.aload_n 0, 1) := by decide +kernel
theorem dX5_copyOf_39 : decode cX5_copyOf 39 = .ok (.getfield 15, 3) := by decide +kernel
theorem dX5_copyOf_42 : decode cX5_copyOf 42 = .ok (.iconst 0, 1) := by decide +kernel
theorem dX5_copyOf_43 : decode cX5_copyOf 43 = .ok (.aload_n 0, 1) := by decide +kernel
theorem dX5_copyOf_44 : decode cX5_copyOf 44 = .ok (.getfield 53, 3) := by decide +kernel
theorem dX5_copyOf_47 : decode cX5_copyOf 47 = .ok (.invokestatic 56, 3) := by decide +kernel
theorem dX5_copyOf_50 : decode cX5_copyOf 50 = .ok (.aload_n 1, 1) := by decide +kernel
theorem dX5_copyOf_51 : decode cX5_copyOf 51 = .ok (.getfield 18, 3) := by decide +kernel
theorem dX5_copyOf_54 : decode cX5_copyOf 54 = .ok (.iconst 0, 1) := by decide +kernel
theorem dX5_copyOf_55 : decode cX5_copyOf 55 = .ok (.aload_n 0, 1) := by decide +kernel
theorem dX5_copyOf_56 : decode cX5_copyOf 56 = .ok (.getfield 18, 3) := by decide +kernel
theorem dX5_copyOf_59 : decode cX5_copyOf 59 = .ok (.iconst 0, 1) := by decide +kernel
theorem dX5_copyOf_60 : decode cX5_copyOf 60 = .ok (.aload_n 0, 1) := by decide +kernel
theorem dX5_copyOf_61 : decode cX5_copyOf 61 = .ok (.getfield 53, 3) := by decide +kernel
theorem dX5_copyOf_64 : decode cX5_copyOf 64 = .ok (.invokestatic 56, 3) := by decide +kernel
theorem dX5_copyOf_67 : decode cX5_copyOf 67 = .ok (.aload_n 1, 1) := by decide +kernel
theorem dX5_copyOf_68 : decode cX5_copyOf 68 = .ok (.getfield 21, 3) := by decide +kernel
theorem dX5_copyOf_71 : decode cX5_copyOf 71 = .ok (.iconst 0, 1) := by decide +kernel
theorem dX5_copyOf_72 : decode cX5_copyOf 72 = .ok (.aload_n 0, 1) := by decide +kernel
theorem dX5_copyOf_73 : decode cX5_copyOf 73 = .ok (.getfield 21, 3) := by decide +kernel
theorem dX5_copyOf_76 : decode cX5_copyOf 76 = .ok (.iconst 0, 1) := by decide +kernel
theorem dX5_copyOf_77 : decode cX5_copyOf 77 = .ok (.aload_n 0, 1) := by decide +kernel
theorem dX5_copyOf_78 : decode cX5_copyOf 78 = .ok (.getfield 53, 3) := by decide +kernel
theorem dX5_copyOf_81 : decode cX5_copyOf 81 = .ok (.invokestatic 56, 3) := by decide +kernel
theorem dX5_copyOf_84 : decode cX5_copyOf 84 = .ok (.aload_n 1, 1) := by decide +kernel
theorem dX5_copyOf_85 : decode cX5_copyOf 85 = .ok (.getfield 24, 3) := by decide +kernel
theorem dX5_copyOf_88 : decode cX5_copyOf 88 = .ok (.iconst 0, 1) := by decide +kernel
theorem dX5_copyOf_89 : decode cX5_copyOf 89 = .ok (.aload_n 0, 1) := by decide +kernel
theorem dX5_copyOf_90 : decode cX5_copyOf 90 = .ok (.getfield 24, 3) := by decide +kernel
theorem dX5_copyOf_93 : decode cX5_copyOf 93 = .ok (.iconst 0, 1) := by decide +kernel
theorem dX5_copyOf_94 : decode cX5_copyOf 94 = .ok (.aload_n 0, 1) := by decide +kernel
theorem dX5_copyOf_95 : decode cX5_copyOf 95 = .ok (.getfield 53, 3) := by decide +kernel
theorem dX5_copyOf_98 : decode cX5_copyOf 98 = .ok (.invokestatic 56, 3) := by decide +kernel
theorem dX5_copyOf_101 : decode cX5_copyOf 101 = .ok (.aload_n 1, 1) := by decide +kernel
theorem dX5_copyOf_102 : decode cX5_copyOf 102 = .ok (.getfield 27, 3) := by decide +kernel
theorem dX5_copyOf_105 : decode cX5_copyOf 105 = .ok (.iconst 0, 1) := by decide +kernel
theorem dX5_copyOf_106 : decode cX5_copyOf 106 = .ok (.aload_n 0, 1) := by decide +kernel
theorem dX5_copyOf_107 : decode cX5_copyOf 107 = .ok (.getfield 27, 3) := by decide +kernel
theorem dX5_copyOf_110 : decode cX5_copyOf 110 = .ok (.iconst 0, 1) := by decide +kernel
theorem dX5_copyOf_111 : decode cX5_copyOf 111 = .ok (.aload_n 0, 1) := by decide +kernel
theorem dX5_copyOf_112 : decode cX5_copyOf 112 = .ok (.getfield 53, 3) := by decide +kernel
theorem dX5_copyOf_115 : decode cX5_copyOf 115 = .ok (.invokestatic 56, 3) := by decide +kernel
theorem dX5_copyOf_118 : decode cX5_copyOf 118 = .ok (.aload_n 1, 1) := by decide +kernel
theorem dX5_copyOf_119 : decode cX5_copyOf 119 = .ok (.getfield 30, 3) := by decide +kernel
theorem dX5_copyOf_122 : decode cX5_copyOf 122 = .ok (.iconst 0, 1) := by decide +kernel
theorem dX5_copyOf_123 : decode cX5_copyOf 123 = .ok (.aload_n 0, 1) := by decide +kernel
theorem dX5_copyOf_124 : decode cX5_copyOf 124 = .ok (.getfield 30, 3) := by decide +kernel
theorem dX5_copyOf_127 : decode cX5_copyOf 127 = .ok (.iconst 0, 1) := by decide +kernel
theorem dX5_copyOf_128 : decode cX5_copyOf 128 = .ok (.aload_n 0, 1) := by decide +kernel
theorem dX5_copyOf_129 : decode cX5_copyOf 129 = .ok (.getfield 53, 3) := by decide +kernel
theorem dX5_copyOf_132 : decode cX5_copyOf 132 = .ok (.invokestatic 56, 3) := by decide +kernel
theorem dX5_copyOf_135 : decode cX5_copyOf 135 = .ok (.aload_n 1, 1) := by decide +kernel
theorem dX5_copyOf_136 : decode cX5_copyOf 136 = .ok (.getfield 33, 3) := by decide +kernel
theorem dX5_copyOf_139 : decode cX5_copyOf 139 = .ok (.iconst 0, 1) := by decide +kernel
theorem dX5_copyOf_140 : decode cX5_copyOf 140 = .ok (.aload_n 0, 1) := by decide +kernel
theorem dX5_copyOf_141 : decode cX5_copyOf 141 = .ok (.getfield 33, 3) := by decide +kernel
theorem dX5_copyOf_144 : decode cX5_copyOf 144 = .ok (.iconst 0, 1) := by decide +kernel
theorem dX5_copyOf_145 : decode cX5_copyOf 145 = .ok (.aload_n 0, 1) := by decide +kernel
theorem dX5_copyOf_146 : decode cX5_copyOf 146 = .ok (.getfield 53, 3) := by decide +kernel
theorem dX5_copyOf_149 : decode cX5_copyOf 149 = .ok (.invokestatic 56, 3) := by decide +kernel
theorem dX5_copyOf_152 : decode cX5_copyOf 152 = .ok (.aload_n 1, 1) := by decide +kernel
theorem dX5_copyOf_153 : decode cX5_copyOf 153 = .ok (.getfield 36, 3) := by decide +kernel
theorem dX5_copyOf_156 : decode cX5_copyOf 156 = .ok (.iconst 0, 1) := by decide +kernel
theorem dX5_copyOf_157 : decode cX5_copyOf 157 = .ok (.aload_n 0, 1) := by decide +kernel
theorem dX5_copyOf_158 : decode cX5_copyOf 158 = .ok (.getfield 36, 3) := by decide +kernel
theorem dX5_copyOf_161 : decode cX5_copyOf 161 = .ok (.iconst 0, 1) := by decide +kernel
theorem dX5_copyOf_162 : decode cX5_copyOf 162 = .ok (.aload_n 0, 1) := by decide +kernel
theorem dX5_copyOf_163 : decode cX5_copyOf 163 = .ok (.getfield 53, 3) := by decide +kernel
theorem dX5_copyOf_166 : decode cX5_copyOf 166 = .ok (.invokestatic 56, 3) := by decide +kernel
theorem dX5_copyOf_169 : decode cX5_copyOf 169 = .ok (.aload_n 1, 1) := by decide +kernel
theorem dX5_copyOf_170 : decode cX5_copyOf 170 = .ok (.getfield 39, 3) := by decide +kernel
theorem dX5_copyOf_173 : decode cX5_copyOf 173 = .ok (.iconst 0, 1) := by decide +kernel
theorem dX5_copyOf_174 : decode cX5_copyOf 174 = .ok (.aload_n 0, 1) := by decide +kernel
theorem dX5_copyOf_175 : decode cX5_copyOf 175 = .ok (.getfield 39, 3) := by decide +kernel
theorem dX5_copyOf_178 : decode cX5_copyOf 178 = .ok (.iconst 0, 1) := by decide +kernel
theorem dX5_copyOf_179 : decode cX5_copyOf 179 = .ok (.bipush 26, 2) := by decide +kernel
theorem dX5_copyOf_181 : decode cX5_copyOf 181 = .ok (.invokestatic 56, 3) := by decide +kernel
theorem dX5_copyOf_184 : decode cX5_copyOf 184 = .ok (.return_, 1) := by decide +kernel
theorem dX5_append_0 : decode cX5_append 0 = .ok (.iload_n 3, 1) := by decide +kernel
theorem dX5_append_1 : decode cX5_append 1 = .ok (.iload_n 2, 1) := by decide +kernel
theorem dX5_append_2 : decode cX5_append 2 = .ok (.isub, 1) := by decide +kernel
theorem dX5_append_3 : decode cX5_append 3 = .ok (.istore 4, 2) := by decide +kernel
theorem dX5_append_5 : decode cX5_append 5 = .ok (.iload_n 2, 1) := by decide +kernel
theorem dX5_append_6 : decode cX5_append 6 = .ok (.ifCond .lt 27, 3) := by decide +kernel
theorem dX5_append_9 : decode cX5_append 9 = .ok (.iload 4, 2) := by decide +kernel
theorem dX5_append_11 : decode cX5_append 11 = .ok (.ifCond .lt 22, 3) := by decide +kernel
theorem dX5_append_14 : decode cX5_append 14 = .ok (.iload_n 3, 1) := by decide +kernel
theorem dX5_append_15 : decode cX5_append 15 = .ok (.aload_n 1, 1) := by decide +kernel
theorem dX5_append_16 : decode cX5_append 16 = .ok (.arraylength, 1) := by decide +kernel
theorem dX5_append_17 : decode cX5_append 17 = .ok (.if_icmp .gt 16, 3) := by decide +kernel
theorem dX5_append_20 : decode cX5_append 20 = .ok (.iload 4, 2) := by decide +kernel
theorem dX5_append_22 : decode cX5_append 22 = .ok (.sipush 240, 3) := by decide +kernel
theorem dX5_append_25 : decode cX5_append 25 = .ok (.aload_n 0, 1) := by decide +kernel
theorem dX5_append_26 : decode cX5_append 26 = .ok (.getfield 45, 3) := by decide +kernel
theorem dX5_append_29 : decode cX5_append 29 = .ok (.isub, 1) := by decide +kernel
theorem dX5_append_30 : decode cX5_append 30 = .ok (.if_icmp .le 5, 3) := by decide +kernel
theorem dX5_append_33 : decode cX5_append 33 = .ok (.iconst 0, 1) := by decide +kernel
theorem dX5_append_34 : decode cX5_append 34 = .ok (.ireturn, 1) := by decide +kernel
theorem dX5_append_35 : decode cX5_append 35 = .ok (.aload_n 1, 1) := by decide +kernel
theorem dX5_append_36 : decode cX5_append 36 = .ok (.iload_n 2, 1) := by decide +kernel
theorem dX5_append_37 : decode cX5_append 37 = .ok (.aload_n 0, 1) := by decide +kernel
theorem dX5_append_38 : decode cX5_append 38 = .ok (.getfield 9, 3) := by decide +kernel
theorem dX5_append_41 : decode cX5_append 41 = .ok (.aload_n 0, 1) := by decide +kernel
theorem dX5_append_42 : decode cX5_append 42 = .ok (.getfield 45, 3) := by decide +kernel
theorem dX5_append_45 : decode cX5_append 45 = .ok (.iload 4, 2) := by decide +kernel
theorem dX5_append_47 : decode cX5_append 47 = .ok (.invokestatic 56, 3) := by decide +kernel
theorem dX5_append_50 : decode cX5_append 50 = .ok (.aload_n 0, 1) := by decide +kernel
theorem dX5_append_51 : decode cX5_append 51 = .ok (.dup, 1) := by decide +kernel
theorem dX5_append_52 : decode cX5_append 52 = .ok (.getfield 45, 3) := by decide +kernel
theorem dX5_append_55 : decode cX5_append 55 = .ok (.iload 4, 2) := by decide +kernel
theorem dX5_append_57 : decode cX5_append 57 = .ok (.iadd, 1) := by decide +kernel
theorem dX5_append_58 : decode cX5_append 58 = .ok (.putfield 45, 3) := by decide +kernel
theorem dX5_append_61 : decode cX5_append 61 = .ok (.iconst 1, 1) := by decide +kernel
theorem dX5_append_62 : decode cX5_append 62 = .ok (.ireturn, 1) := by decide +kernel
theorem dX5_kindOf_0 : decode cX5_kindOf 0 = .ok (.aload_n 0, 1) := by decide +kernel
theorem dX5_kindOf_1 : decode cX5_kindOf 1 = .ok (.getfield 39, 3) := by decide +kernel
theorem dX5_kindOf_4 : decode cX5_kindOf 4 = .ok (.iload_n 1, 1) := by decide +kernel
theorem dX5_kindOf_5 : decode cX5_kindOf 5 = .ok (.iaload, 1) := by decide +kernel
theorem dX5_kindOf_6 : decode cX5_kindOf 6 = .ok (.istore_n 2, 1) := by decide +kernel
theorem dX5_kindOf_7 : decode cX5_kindOf 7 = .ok (.iload_n 2, 1) := by decide +kernel
theorem dX5_kindOf_8 : decode cX5_kindOf 8 = .ok (.iconst (-1), 1) := by decide +kernel
theorem dX5_kindOf_9 : decode cX5_kindOf 9 = .ok (.if_icmp .ne 7, 3) := by decide +kernel
theorem dX5_kindOf_12 : decode cX5_kindOf 12 = .ok (.iconst (-1), 1) := by decide +kernel
theorem dX5_kindOf_13 : decode cX5_kindOf 13 = .ok (.goto 9, 3) := by decide +kernel
theorem dX5_kindOf_16 : decode cX5_kindOf 16 = .ok (.aload_n 0, 1) := by decide +kernel
theorem dX5_kindOf_17 : decode cX5_kindOf 17 = .ok (.getfield 15, 3) := by decide +kernel
theorem dX5_kindOf_20 : decode cX5_kindOf 20 = .ok (.iload_n 2, 1) := by decide +kernel
theorem dX5_kindOf_21 : decode cX5_kindOf 21 = .ok (.iaload, 1) := by decide +kernel
theorem dX5_kindOf_22 : decode cX5_kindOf 22 = .ok (.ireturn, 1) := by decide +kernel
theorem dX5_next_0 : decode cX5_next 0 = .ok (.iload_n 1, 1) := by decide +kernel
theorem dX5_next_1 : decode cX5_next 1 = .ok (.ifCond .lt 22, 3) := by decide +kernel
theorem dX5_next_4 : decode cX5_next 4 = .ok (.iload_n 1, 1) := by decide +kernel
theorem dX5_next_5 : decode cX5_next 5 = .ok (.aload_n 0, 1) := by decide +kernel
theorem dX5_next_6 : decode cX5_next 6 = .ok (.getfield 53, 3) := by decide +kernel
theorem dX5_next_9 : decode cX5_next 9 = .ok (.if_icmp .ge 14, 3) := by decide +kernel
theorem dX5_next_12 : decode cX5_next 12 = .ok (.iload_n 1, 1) := by decide +kernel
theorem dX5_next_13 : decode cX5_next 13 = .ok (.aload_n 0, 1) := by decide +kernel
theorem dX5_next_14 : decode cX5_next 14 = .ok (.getfield 33, 3) := by decide +kernel
theorem dX5_next_17 : decode cX5_next 17 = .ok (.iload_n 1, 1) := by decide +kernel
theorem dX5_next_18 : decode cX5_next 18 = .ok (.iaload, 1) := by decide +kernel
theorem dX5_next_19 : decode cX5_next 19 = .ok (.iadd, 1) := by decide +kernel
theorem dX5_next_20 : decode cX5_next 20 = .ok (.goto 7, 3) := by decide +kernel
theorem dX5_next_23 : decode cX5_next 23 = .ok (.aload_n 0, 1) := by decide +kernel
theorem dX5_next_24 : decode cX5_next 24 = .ok (.getfield 53, 3) := by decide +kernel
theorem dX5_next_27 : decode cX5_next 27 = .ok (.ireturn, 1) := by decide +kernel
theorem dX5_lastByteBehind_0 : decode cX5_lastByteBehind 0 = .ok (.iload_n 1, 1) := by decide +kernel
theorem dX5_lastByteBehind_1 : decode cX5_lastByteBehind 1 = .ok (.istore_n 3, 1) := by decide +kernel
theorem dX5_lastByteBehind_2 : decode cX5_lastByteBehind 2 = .ok (.iconst 1, 1) := by decide +kernel
theorem dX5_lastByteBehind_3 : decode cX5_lastByteBehind 3 = .ok (.istore 4, 2) := by decide +kernel
theorem dX5_lastByteBehind_5 : decode cX5_lastByteBehind 5 = .ok (.iload 4, 2) := by decide +kernel
theorem dX5_lastByteBehind_7 : decode cX5_lastByteBehind 7 = .ok (.iload_n 2, 1) := by decide +kernel
theorem dX5_lastByteBehind_8 : decode cX5_lastByteBehind 8 = .ok (.if_icmp .ge 15, 3) := by decide +kernel
theorem dX5_lastByteBehind_11 : decode cX5_lastByteBehind 11 = .ok (.aload_n 0, 1) := by decide +kernel
theorem dX5_lastByteBehind_12 : decode cX5_lastByteBehind 12 = .ok (.iload_n 3, 1) := by decide +kernel
theorem dX5_lastByteBehind_13 : decode cX5_lastByteBehind 13 = .ok (.invokevirtual 62, 3) := by decide +kernel
theorem dX5_lastByteBehind_16 : decode cX5_lastByteBehind 16 = .ok (.istore_n 3, 1) := by decide +kernel
theorem dX5_lastByteBehind_17 : decode cX5_lastByteBehind 17 = .ok (.iinc 4 1, 3) := by decide +kernel
theorem dX5_lastByteBehind_20 : decode cX5_lastByteBehind 20 = .ok (.goto (-15), 3) := by decide +kernel
theorem dX5_lastByteBehind_23 : decode cX5_lastByteBehind 23 = .ok (.iload_n 3, 1) := by decide +kernel
theorem dX5_lastByteBehind_24 : decode cX5_lastByteBehind 24 = .ok (.ifCond .lt 20, 3) := by decide +kernel
theorem dX5_lastByteBehind_27 : decode cX5_lastByteBehind 27 = .ok (.iload_n 3, 1) := by decide +kernel
theorem dX5_lastByteBehind_28 : decode cX5_lastByteBehind 28 = .ok (.aload_n 0, 1) := by decide +kernel
theorem dX5_lastByteBehind_29 : decode cX5_lastByteBehind 29 = .ok (.getfield 53, 3) := by decide +kernel
theorem dX5_lastByteBehind_32 : decode cX5_lastByteBehind 32 = .ok (.if_icmp .ge 12, 3) := by decide +kernel
theorem dX5_lastByteBehind_35 : decode cX5_lastByteBehind 35 = .ok (.aload_n 0, 1) := by decide +kernel
theorem dX5_lastByteBehind_36 : decode cX5_lastByteBehind 36 = .ok (.getfield 24, 3) := by decide +kernel
theorem dX5_lastByteBehind_39 : decode cX5_lastByteBehind 39 = .ok (.iload_n 3, 1) := by decide +kernel
theorem dX5_lastByteBehind_40 : decode cX5_lastByteBehind 40 = .ok (.iaload, 1) := by decide +kernel
theorem dX5_lastByteBehind_41 : decode cX5_lastByteBehind 41 = .ok (.goto 4, 3) := by decide +kernel
theorem dX5_lastByteBehind_44 : decode cX5_lastByteBehind 44 = .ok (.iconst 0, 1) := by decide +kernel
theorem dX5_lastByteBehind_45 : decode cX5_lastByteBehind 45 = .ok (.ireturn, 1) := by decide +kernel
theorem dX5_markAlike_0 : decode cX5_markAlike 0 = .ok (.aload_n 0, 1) := by decide +kernel
theorem dX5_markAlike_1 : decode cX5_markAlike 1 = .ok (.getfield 53, 3) := by decide +kernel
theorem dX5_markAlike_4 : decode cX5_markAlike 4 = .ok (.iconst 1, 1) := by decide +kernel
theorem dX5_markAlike_5 : decode cX5_markAlike 5 = .ok (.isub, 1) := by decide +kernel
theorem dX5_markAlike_6 : decode cX5_markAlike 6 = .ok (.istore_n 1, 1) := by decide +kernel
theorem dX5_markAlike_7 : decode cX5_markAlike 7 = .ok (.iload_n 1, 1) := by decide +kernel
theorem dX5_markAlike_8 : decode cX5_markAlike 8 = .ok (.ifCond .lt 73, 3) := by decide +kernel
theorem dX5_markAlike_11 : decode cX5_markAlike 11 = .ok (.aload_n 0, 1) := by decide +kernel
theorem dX5_markAlike_12 : decode cX5_markAlike 12 = .ok (.getfield 42, 3) := by decide +kernel
theorem dX5_markAlike_15 : decode cX5_markAlike 15 = .ok (.iload_n 1, 1) := by decide +kernel
theorem dX5_markAlike_16 : decode cX5_markAlike 16 = .ok (.iload_n 1, 1) := by decide +kernel
theorem dX5_markAlike_17 : decode cX5_markAlike 17 = .ok (.iastore, 1) := by decide +kernel
theorem dX5_markAlike_18 : decode cX5_markAlike 18 = .ok (.iload_n 1, 1) := by decide +kernel
theorem dX5_markAlike_19 : decode cX5_markAlike 19 = .ok (.iconst 1, 1) := by decide +kernel
theorem dX5_markAlike_20 : decode cX5_markAlike 20 = .ok (.iadd, 1) := by decide +kernel
theorem dX5_markAlike_21 : decode cX5_markAlike 21 = .ok (.istore_n 2, 1) := by decide +kernel
theorem dX5_markAlike_22 : decode cX5_markAlike 22 = .ok (.iload_n 2, 1) := by decide +kernel
theorem dX5_markAlike_23 : decode cX5_markAlike 23 = .ok (.aload_n 0, 1) := by decide +kernel
theorem dX5_markAlike_24 : decode cX5_markAlike 24 = .ok (.getfield 53, 3) := by decide +kernel
theorem dX5_markAlike_27 : decode cX5_markAlike 27 = .ok (.if_icmp .ge 48, 3) := by decide +kernel
theorem dX5_markAlike_30 : decode cX5_markAlike 30 = .ok (.aload_n 0, 1) := by decide +kernel
theorem dX5_markAlike_31 : decode cX5_markAlike 31 = .ok (.getfield 33, 3) := by decide +kernel
theorem dX5_markAlike_34 : decode cX5_markAlike 34 = .ok (.iload_n 2, 1) := by decide +kernel
theorem dX5_markAlike_35 : decode cX5_markAlike 35 = .ok (.iaload, 1) := by decide +kernel
theorem dX5_markAlike_36 : decode cX5_markAlike 36 = .ok (.aload_n 0, 1) := by decide +kernel
theorem dX5_markAlike_37 : decode cX5_markAlike 37 = .ok (.getfield 33, 3) := by decide +kernel
theorem dX5_markAlike_40 : decode cX5_markAlike 40 = .ok (.iload_n 1, 1) := by decide +kernel
theorem dX5_markAlike_41 : decode cX5_markAlike 41 = .ok (.iaload, 1) := by decide +kernel
theorem dX5_markAlike_42 : decode cX5_markAlike 42 = .ok (.if_icmp .ne 27, 3) := by decide +kernel
theorem dX5_markAlike_45 : decode cX5_markAlike 45 = .ok (.aload_n 0, 1) := by decide +kernel
theorem dX5_markAlike_46 : decode cX5_markAlike 46 = .ok (.iload_n 1, 1) := by decide +kernel
theorem dX5_markAlike_47 : decode cX5_markAlike 47 = .ok (.iload_n 2, 1) := by decide +kernel
theorem dX5_markAlike_48 : decode cX5_markAlike 48 = .ok (.invokevirtual 66, 3) := by decide +kernel
theorem dX5_markAlike_51 : decode cX5_markAlike 51 = .ok (.ifCond .eq 18, 3) := by decide +kernel
theorem dX5_markAlike_54 : decode cX5_markAlike 54 = .ok (.aload_n 0, 1) := by decide +kernel
theorem dX5_markAlike_55 : decode cX5_markAlike 55 = .ok (.getfield 42, 3) := by decide +kernel
theorem dX5_markAlike_58 : decode cX5_markAlike 58 = .ok (.iload_n 1, 1) := by decide +kernel
theorem dX5_markAlike_59 : decode cX5_markAlike 59 = .ok (.aload_n 0, 1) := by decide +kernel
theorem dX5_markAlike_60 : decode cX5_markAlike 60 = .ok (.getfield 42, 3) := by decide +kernel
theorem dX5_markAlike_63 : decode cX5_markAlike 63 = .ok (.iload_n 2, 1) := by decide +kernel
theorem dX5_markAlike_64 : decode cX5_markAlike 64 = .ok (.iaload, 1) := by decide +kernel
theorem dX5_markAlike_65 : decode cX5_markAlike 65 = .ok (.iastore, 1) := by decide +kernel
theorem dX5_markAlike_66 : decode cX5_markAlike 66 = .ok (.goto 9, 3) := by decide +kernel
theorem dX5_markAlike_69 : decode cX5_markAlike 69 = .ok (.iinc 2 1, 3) := by decide +kernel
theorem dX5_markAlike_72 : decode cX5_markAlike 72 = .ok (.goto (-50), 3) := by decide +kernel
theorem dX5_markAlike_75 : decode cX5_markAlike 75 = .ok (.iinc 1 (-1), 3) := by decide +kernel
theorem dX5_markAlike_78 : decode cX5_markAlike 78 = .ok (.goto (-71), 3) := by decide +kernel
theorem dX5_markAlike_81 : decode cX5_markAlike 81 = .ok (.return_, 1) := by decide +kernel
theorem dX5_looksAlike_0 : decode cX5_looksAlike 0 = .ok (.aload_n 0, 1) := by decide +kernel
theorem dX5_looksAlike_1 : decode cX5_looksAlike 1 = .ok (.getfield 30, 3) := by decide +kernel
theorem dX5_looksAlike_4 : decode cX5_looksAlike 4 = .ok (.iload_n 1, 1) := by decide +kernel
theorem dX5_looksAlike_5 : decode cX5_looksAlike 5 = .ok (.iaload, 1) := by decide +kernel
theorem dX5_looksAlike_6 : decode cX5_looksAlike 6 = .ok (.aload_n 0, 1) := by decide +kernel
theorem dX5_looksAlike_7 : decode cX5_looksAlike 7 = .ok (.getfield 30, 3) := by decide +kernel
theorem dX5_looksAlike_10 : decode cX5_looksAlike 10 = .ok (.iload_n 2, 1) := by decide +kernel
theorem dX5_looksAlike_11 : decode cX5_looksAlike 11 = .ok (.iaload, 1) := by decide +kernel
theorem dX5_looksAlike_12 : decode cX5_looksAlike 12 = .ok (.if_icmp .ne 13, 3) := by decide +kernel
theorem dX5_looksAlike_15 : decode cX5_looksAlike 15 = .ok (.aload_n 0, 1) := by decide +kernel
theorem dX5_looksAlike_16 : decode cX5_looksAlike 16 = .ok (.iload_n 1, 1) := by decide +kernel
theorem dX5_looksAlike_17 : decode cX5_looksAlike 17 = .ok (.aload_n 0, 1) := by decide +kernel
theorem dX5_looksAlike_18 : decode cX5_looksAlike 18 = .ok (.iload_n 2, 1) := by decide +kernel
theorem dX5_looksAlike_19 : decode cX5_looksAlike 19 = .ok (.invokestatic 70, 3) := by decide +kernel
theorem dX5_looksAlike_22 : decode cX5_looksAlike 22 = .ok (.ifCond .ne 5, 3) := by decide +kernel
theorem dX5_looksAlike_25 : decode cX5_looksAlike 25 = .ok (.iconst 0, 1) := by decide +kernel
theorem dX5_looksAlike_26 : decode cX5_looksAlike 26 = .ok (.ireturn, 1) := by decide +kernel
theorem dX5_looksAlike_27 : decode cX5_looksAlike 27 = .ok (.iload_n 1, 1) := by decide +kernel
theorem dX5_looksAlike_28 : decode cX5_looksAlike 28 = .ok (.iconst 1, 1) := by decide +kernel
theorem dX5_looksAlike_29 : decode cX5_looksAlike 29 = .ok (.iadd, 1) := by decide +kernel
theorem dX5_looksAlike_30 : decode cX5_looksAlike 30 = .ok (.istore_n 3, 1) := by decide +kernel
theorem dX5_looksAlike_31 : decode cX5_looksAlike 31 = .ok (.iload_n 2, 1) := by decide +kernel
theorem dX5_looksAlike_32 : decode cX5_looksAlike 32 = .ok (.iconst 1, 1) := by decide +kernel
theorem dX5_looksAlike_33 : decode cX5_looksAlike 33 = .ok (.iadd, 1) := by decide +kernel
theorem dX5_looksAlike_34 : decode cX5_looksAlike 34 = .ok (.istore 4, 2) := by decide +kernel
theorem dX5_looksAlike_36 : decode cX5_looksAlike 36 = .ok (.iconst 0, 1) := by decide +kernel
theorem dX5_looksAlike_37 : decode cX5_looksAlike 37 = .ok (.istore 5, 2) := by decide +kernel
theorem dX5_looksAlike_39 : decode cX5_looksAlike 39 = .ok (.iload 5, 2) := by decide +kernel
theorem dX5_looksAlike_41 : decode cX5_looksAlike 41 = .ok (.aload_n 0, 1) := by decide +kernel
theorem dX5_looksAlike_42 : decode cX5_looksAlike 42 = .ok (.getfield 30, 3) := by decide +kernel
theorem dX5_looksAlike_45 : decode cX5_looksAlike 45 = .ok (.iload_n 1, 1) := by decide +kernel
theorem dX5_looksAlike_46 : decode cX5_looksAlike 46 = .ok (.iaload, 1) := by decide +kernel
theorem dX5_looksAlike_47 : decode cX5_looksAlike 47 = .ok (.if_icmp .ge 58, 3) := by decide +kernel
theorem dX5_looksAlike_50 : decode cX5_looksAlike 50 = .ok (.iload_n 3, 1) := by decide +kernel
theorem dX5_looksAlike_51 : decode cX5_looksAlike 51 = .ok (.aload_n 0, 1) := by decide +kernel
theorem dX5_looksAlike_52 : decode cX5_looksAlike 52 = .ok (.getfield 53, 3) := by decide +kernel
theorem dX5_looksAlike_55 : decode cX5_looksAlike 55 = .ok (.if_icmp .ge 28, 3) := by decide +kernel
theorem dX5_looksAlike_58 : decode cX5_looksAlike 58 = .ok (.iload 4, 2) := by decide +kernel
theorem dX5_looksAlike_60 : decode cX5_looksAlike 60 = .ok (.aload_n 0, 1) := by decide +kernel
theorem dX5_looksAlike_61 : decode cX5_looksAlike 61 = .ok (.getfield 53, 3) := by decide +kernel
theorem dX5_looksAlike_64 : decode cX5_looksAlike 64 = .ok (.if_icmp .ge 19, 3) := by decide +kernel
theorem dX5_looksAlike_67 : decode cX5_looksAlike 67 = .ok (.aload_n 0, 1) := by decide +kernel
theorem dX5_looksAlike_68 : decode cX5_looksAlike 68 = .ok (.getfield 42, 3) := by decide +kernel
theorem dX5_looksAlike_71 : decode cX5_looksAlike 71 = .ok (.iload_n 3, 1) := by decide +kernel
theorem dX5_looksAlike_72 : decode cX5_looksAlike 72 = .ok (.iaload, 1) := by decide +kernel
theorem dX5_looksAlike_73 : decode cX5_looksAlike 73 = .ok (.aload_n 0, 1) := by decide +kernel
theorem dX5_looksAlike_74 : decode cX5_looksAlike 74 = .ok (.getfield 42, 3) := by decide +kernel
theorem dX5_looksAlike_77 : decode cX5_looksAlike 77 = .ok (.iload 4, 2) := by decide +kernel
theorem dX5_looksAlike_79 : decode cX5_looksAlike 79 = .ok (.iaload, 1) := by decide +kernel
theorem dX5_looksAlike_80 : decode cX5_looksAlike 80 = .ok (.if_icmp .eq 5, 3) := by decide +kernel
theorem dX5_looksAlike_83 : decode cX5_looksAlike 83 = .ok (.iconst 0, 1) := by decide +kernel
theorem dX5_looksAlike_84 : decode cX5_looksAlike 84 = .ok (.ireturn, 1) := by decide +kernel
theorem dX5_looksAlike_85 : decode cX5_looksAlike 85 = .ok (.aload_n 0, 1) := by decide +kernel
theorem dX5_looksAlike_86 : decode cX5_looksAlike 86 = .ok (.iload_n 3, 1) := by decide +kernel
theorem dX5_looksAlike_87 : decode cX5_looksAlike 87 = .ok (.invokevirtual 62, 3) := by decide +kernel
theorem dX5_looksAlike_90 : decode cX5_looksAlike 90 = .ok (.istore_n 3, 1) := by decide +kernel
theorem dX5_looksAlike_91 : decode cX5_looksAlike 91 = .ok (.aload_n 0, 1) := by decide +kernel
theorem dX5_looksAlike_92 : decode cX5_looksAlike 92 = .ok (.iload 4, 2) := by decide +kernel
theorem dX5_looksAlike_94 : decode cX5_looksAlike 94 = .ok (.invokevirtual 62, 3) := by decide +kernel
theorem dX5_looksAlike_97 : decode cX5_looksAlike 97 = .ok (.istore 4, 2) := by decide +kernel
theorem dX5_looksAlike_99 : decode cX5_looksAlike 99 = .ok (.iinc 5 1, 3) := by decide +kernel
theorem dX5_looksAlike_102 : decode cX5_looksAlike 102 = .ok (.goto (-63), 3) := by decide +kernel
theorem dX5_looksAlike_105 : decode cX5_looksAlike 105 = .ok (.iconst 1, 1) := by decide +kernel
theorem dX5_looksAlike_106 : decode cX5_looksAlike 106 = .ok (.ireturn, 1) := by decide +kernel
theorem dX5_sameAtom_0 : decode cX5_sameAtom 0 = .ok (.aload_n 0, 1) := by decide +kernel
theorem dX5_sameAtom_1 : decode cX5_sameAtom 1 = .ok (.getfield 18, 3) := by decide +kernel
theorem dX5_sameAtom_4 : decode cX5_sameAtom 4 = .ok (.iload_n 1, 1) := by decide +kernel
theorem dX5_sameAtom_5 : decode cX5_sameAtom 5 = .ok (.iaload, 1) := by decide +kernel
theorem dX5_sameAtom_6 : decode cX5_sameAtom 6 = .ok (.istore 4, 2) := by decide +kernel
theorem dX5_sameAtom_8 : decode cX5_sameAtom 8 = .ok (.aload_n 2, 1) := by decide +kernel
theorem dX5_sameAtom_9 : decode cX5_sameAtom 9 = .ok (.getfield 18, 3) := by decide +kernel
theorem dX5_sameAtom_12 : decode cX5_sameAtom 12 = .ok (.iload_n 3, 1) := by decide +kernel
theorem dX5_sameAtom_13 : decode cX5_sameAtom 13 = .ok (.iaload, 1) := by decide +kernel
theorem dX5_sameAtom_14 : decode cX5_sameAtom 14 = .ok (.istore 5, 2) := by decide +kernel
theorem dX5_sameAtom_16 : decode cX5_sameAtom 16 = .ok (.aload_n 0, 1) := by decide +kernel
theorem dX5_sameAtom_17 : decode cX5_sameAtom 17 = .ok (.getfield 21, 3) := by decide +kernel
theorem dX5_sameAtom_20 : decode cX5_sameAtom 20 = .ok (.iload_n 1, 1) := by decide +kernel
theorem dX5_sameAtom_21 : decode cX5_sameAtom 21 = .ok (.iaload, 1) := by decide +kernel
theorem dX5_sameAtom_22 : decode cX5_sameAtom 22 = .ok (.iload 4, 2) := by decide +kernel
theorem dX5_sameAtom_24 : decode cX5_sameAtom 24 = .ok (.isub, 1) := by decide +kernel
theorem dX5_sameAtom_25 : decode cX5_sameAtom 25 = .ok (.istore 6, 2) := by decide +kernel
theorem dX5_sameAtom_27 : decode cX5_sameAtom 27 = .ok (.iload 6, 2) := by decide +kernel
theorem dX5_sameAtom_29 : decode cX5_sameAtom 29 = .ok (.aload_n 2, 1) := by decide +kernel
theorem dX5_sameAtom_30 : decode cX5_sameAtom 30 = .ok (.getfield 21, 3) := by decide +kernel
theorem dX5_sameAtom_33 : decode cX5_sameAtom 33 = .ok (.iload_n 3, 1) := by decide +kernel
theorem dX5_sameAtom_34 : decode cX5_sameAtom 34 = .ok (.iaload, 1) := by decide +kernel
theorem dX5_sameAtom_35 : decode cX5_sameAtom 35 = .ok (.iload 5, 2) := by decide +kernel
theorem dX5_sameAtom_37 : decode cX5_sameAtom 37 = .ok (.isub, 1) := by decide +kernel
theorem dX5_sameAtom_38 : decode cX5_sameAtom 38 = .ok (.if_icmp .eq 5, 3) := by decide +kernel
theorem dX5_sameAtom_41 : decode cX5_sameAtom 41 = .ok (.iconst 0, 1) := by decide +kernel
theorem dX5_sameAtom_42 : decode cX5_sameAtom 42 = .ok (.ireturn, 1) := by decide +kernel
theorem dX5_sameAtom_43 : decode cX5_sameAtom 43 = .ok (.iconst 0, 1) := by decide +kernel
theorem dX5_sameAtom_44 : decode cX5_sameAtom 44 = .ok (.istore 7, 2) := by decide +kernel
theorem dX5_sameAtom_46 : decode cX5_sameAtom 46 = .ok (.iload 7, 2) := by decide +kernel
theorem dX5_sameAtom_48 : decode cX5_sameAtom 48 = .ok (.iload 6, 2) := by decide +kernel
theorem dX5_sameAtom_50 : decode cX5_sameAtom 50 = .ok (.if_icmp .ge 34, 3) := by decide +kernel
theorem dX5_sameAtom_53 : decode cX5_sameAtom 53 = .ok (.aload_n 0, 1) := by decide +kernel
theorem dX5_sameAtom_54 : decode cX5_sameAtom 54 = .ok (.getfield 9, 3) := by decide +kernel
theorem dX5_sameAtom_57 : decode cX5_sameAtom 57 = .ok (.iload 4, 2) := by decide +kernel
theorem dX5_sameAtom_59 : decode cX5_sameAtom 59 = .ok (.iload 7, 2) := by decide +kernel
theorem dX5_sameAtom_61 : decode cX5_sameAtom 61 = .ok (.iadd, 1) := by decide +kernel
theorem dX5_sameAtom_62 : decode cX5_sameAtom 62 = .ok (.iaload, 1) := by decide +kernel
theorem dX5_sameAtom_63 : decode cX5_sameAtom 63 = .ok (.aload_n 2, 1) := by decide +kernel
theorem dX5_sameAtom_64 : decode cX5_sameAtom 64 = .ok (.getfield 9, 3) := by decide +kernel
theorem dX5_sameAtom_67 : decode cX5_sameAtom 67 = .ok (.iload 5, 2) := by decide +kernel
theorem dX5_sameAtom_69 : decode cX5_sameAtom 69 = .ok (.iload 7, 2) := by decide +kernel
theorem dX5_sameAtom_71 : decode cX5_sameAtom 71 = .ok (.iadd, 1) := by decide +kernel
theorem dX5_sameAtom_72 : decode cX5_sameAtom 72 = .ok (.iaload, 1) := by decide +kernel
theorem dX5_sameAtom_73 : decode cX5_sameAtom 73 = .ok (.if_icmp .eq 5, 3) := by decide +kernel
theorem dX5_sameAtom_76 : decode cX5_sameAtom 76 = .ok (.iconst 0, 1) := by decide +kernel
theorem dX5_sameAtom_77 : decode cX5_sameAtom 77 = .ok (.ireturn, 1) := by decide +kernel
theorem dX5_sameAtom_78 : decode cX5_sameAtom 78 = .ok (.iinc 7 1, 3) := by decide +kernel
theorem dX5_sameAtom_81 : decode cX5_sameAtom 81 = .ok (.goto (-35), 3) := by decide +kernel
theorem dX5_sameAtom_84 : decode cX5_sameAtom 84 = .ok (.iconst 1, 1) := by decide +kernel
theorem dX5_sameAtom_85 : decode cX5_sameAtom 85 = .ok (.ireturn, 1) := by decide +kernel
theorem dX6_init_0 : decode cX6_init 0 = .ok (.aload_n 0, 1) := by decide +kernel
theorem dX6_init_1 : decode cX6_init 1 = .ok (.invokespecial 3, 3) := by decide +kernel
theorem dX6_init_4 : decode cX6_init 4 = .ok (.aload_n 0, 1) := by decide +kernel
theorem dX6_init_5 : decode cX6_init 5 = .ok (.sipush 260, 3) := by decide +kernel
theorem dX6_init_8 : decode cX6_init 8 = .ok (.newarray .int, 2) := by decide +kernel
theorem dX6_init_10 : decode cX6_init 10 = .ok (.putfield 9, 3) := by decide +kernel
theorem dX6_init_13 : decode cX6_init 13 = .ok (.aload_n 0, 1) := by decide +kernel
theorem dX6_init_14 : decode cX6_init 14 = .ok (.getfield 9, 3) := by decide +kernel
theorem dX6_init_17 : decode cX6_init 17 = .ok (.iconst 0, 1) := by decide +kernel
theorem dX6_init_18 : decode cX6_init 18 = .ok (.bipush 97, 2) := by decide +kernel
theorem dX6_init_20 : decode cX6_init 20 = .ok (.iastore, 1) := by decide +kernel
theorem dX6_init_21 : decode cX6_init 21 = .ok (.aload_n 0, 1) := by decide +kernel
theorem dX6_init_22 : decode cX6_init 22 = .ok (.new 13, 3) := by decide +kernel
theorem dX6_init_25 : decode cX6_init 25 = .ok (.dup, 1) := by decide +kernel
theorem dX6_init_26 : decode cX6_init 26 = .ok (.invokespecial 15, 3) := by decide +kernel
theorem dX6_init_29 : decode cX6_init 29 = .ok (.putfield 16, 3) := by decide +kernel
theorem dX6_init_32 : decode cX6_init 32 = .ok (.aload_n 0, 1) := by decide +kernel
theorem dX6_init_33 : decode cX6_init 33 = .ok (.new 13, 3) := by decide +kernel
theorem dX6_init_36 : decode cX6_init 36 = .ok (.dup, 1) := by decide +kernel
theorem dX6_init_37 : decode cX6_init 37 = .ok (.invokespecial 15, 3) := by decide +kernel
theorem dX6_init_40 : decode cX6_init 40 = .ok (.putfield 20, 3) := by decide +kernel
theorem dX6_init_43 : decode cX6_init 43 = .ok (.aload_n 0, 1) := by decide +kernel
theorem dX6_init_44 : decode cX6_init 44 = .ok (.new 13, 3) := by decide +kernel
theorem dX6_init_47 : decode cX6_init 47 = .ok (.dup, 1) := by decide +kernel
theorem dX6_init_48 : decode cX6_init 48 = .ok (.invokespecial 15, 3) := by decide +kernel
theorem dX6_init_51 : decode cX6_init 51 = .ok (.putfield 23, 3) := by decide +kernel
theorem dX6_init_54 : decode cX6_init 54 = .ok (.aload_n 0, 1) := by decide +kernel
theorem dX6_init_55 : decode cX6_init 55 = .ok (.new 13, 3) := by decide +kernel
theorem dX6_init_58 : decode cX6_init 58 = .ok (.dup, 1) := by decide +kernel
theorem dX6_init_59 : decode cX6_init 59 = .ok (.invokespecial 15, 3) := by decide +kernel
theorem dX6_init_62 : decode cX6_init 62 = .ok (.putfield 26, 3) := by decide +kernel
theorem dX6_init_65 : decode cX6_init 65 = .ok (.aload_n 0, 1) := by decide +kernel
theorem dX6_init_66 : decode cX6_init 66 = .ok (.new 29, 3) := by decide +kernel
theorem dX6_init_69 : decode cX6_init 69 = .ok (.dup, 1) := by decide +kernel
theorem dX6_init_70 : decode cX6_init 70 = .ok (.invokespecial 31, 3) := by decide +kernel
theorem dX6_init_73 : decode cX6_init 73 = .ok (.putfield 32, 3) := by decide +kernel
theorem dX6_init_76 : decode cX6_init 76 = .ok (.aload_n 0, 1) := by decide +kernel
theorem dX6_init_77 : decode cX6_init 77 = .ok (.new 36, 3) := by decide +kernel
theorem dX6_init_80 : decode cX6_init 80 = .ok (.dup, 1) := by decide +kernel
theorem dX6_init_81 : decode cX6_init 81 = .ok (.aload_n 0, 1) := by decide +kernel
theorem dX6_init_82 : decode cX6_init 82 = .ok (.getfield 16, 3) := by decide +kernel
theorem dX6_init_85 : decode cX6_init 85 = .ok (.aload_n 0, 1) := by decide +kernel
theorem dX6_init_86 : decode cX6_init 86 = .ok (.getfield 20, 3) := by decide +kernel
theorem dX6_init_89 : decode cX6_init 89 = .ok (.invokespecial 38, 3) := by decide +kernel
theorem dX6_init_92 : decode cX6_init 92 = .ok (.putfield 41, 3) := by decide +kernel
theorem dX6_init_95 : decode cX6_init 95 = .ok (.aload_n 0, 1) := by decide +kernel
theorem dX6_init_96 : decode cX6_init 96 = .ok (.new 45, 3) := by decide +kernel
theorem dX6_init_99 : decode cX6_init 99 = .ok (.dup, 1) := by decide +kernel
theorem dX6_init_100 : decode cX6_init 100 = .ok (.aload_n 0, 1) := by decide +kernel
theorem dX6_init_101 : decode cX6_init 101 = .ok (.getfield 16, 3) := by decide +kernel
theorem dX6_init_104 : decode cX6_init 104 = .ok (.aload_n 0, 1) := by decide +kernel
theorem dX6_init_105 : decode cX6_init 105 = .ok (.getfield 41, 3) := by decide +kernel
theorem dX6_init_108 : decode cX6_init 108 = .ok (.invokespecial 47, 3) := by decide +kernel
theorem dX6_init_111 : decode cX6_init 111 = .ok (.putfield 50, 3) := by decide +kernel
theorem dX6_init_114 : decode cX6_init 114 = .ok (.aload_n 0, 1) := by decide +kernel
theorem dX6_init_115 : decode cX6_init 115 = .ok (.new 54, 3) := by decide +kernel
theorem dX6_init_118 : decode cX6_init 118 = .ok (.dup, 1) := by decide +kernel
theorem dX6_init_119 : decode cX6_init 119 = .ok (.aload_n 0, 1) := by decide +kernel
theorem dX6_init_120 : decode cX6_init 120 = .ok (.getfield 16, 3) := by decide +kernel
theorem dX6_init_123 : decode cX6_init 123 = .ok (.aload_n 0, 1) := by decide +kernel
theorem dX6_init_124 : decode cX6_init 124 = .ok (.getfield 23, 3) := by decide +kernel
theorem dX6_init_127 : decode cX6_init 127 = .ok (.aload_n 0, 1) := by decide +kernel
theorem dX6_init_128 : decode cX6_init 128 = .ok (.getfield 41, 3) := by decide +kernel
theorem dX6_init_131 : decode cX6_init 131 = .ok (.invokespecial 56, 3) := by decide +kernel
theorem dX6_init_134 : decode cX6_init 134 = .ok (.putfield 59, 3) := by decide +kernel
theorem dX6_init_137 : decode cX6_init 137 = .ok (.aload_n 0, 1) := by decide +kernel
theorem dX6_init_138 : decode cX6_init 138 = .ok (.new 63, 3) := by decide +kernel
theorem dX6_init_141 : decode cX6_init 141 = .ok (.dup, 1) := by decide +kernel
theorem dX6_init_142 : decode cX6_init 142 = .ok (.invokespecial 65, 3) := by decide +kernel
theorem dX6_init_145 : decode cX6_init 145 = .ok (.putfield 66, 3) := by decide +kernel
theorem dX6_init_148 : decode cX6_init 148 = .ok (.aload_n 0, 1) := by decide +kernel
theorem dX6_init_149 : decode cX6_init 149 = .ok (.getfield 26, 3) := by decide +kernel
theorem dX6_init_152 : decode cX6_init 152 = .ok (.aload_n 0, 1) := by decide +kernel
theorem dX6_init_153 : decode cX6_init 153 = .ok (.getfield 9, 3) := by decide +kernel
theorem dX6_init_156 : decode cX6_init 156 = .ok (.iconst 1, 1) := by decide +kernel
theorem dX6_init_157 : decode cX6_init 157 = .ok (.invokevirtual 70, 3) := by decide +kernel
theorem dX6_init_160 : decode cX6_init 160 = .ok (.aload_n 0, 1) := by decide +kernel
theorem dX6_init_161 : decode cX6_init 161 = .ok (.getfield 32, 3) := by decide +kernel
theorem dX6_init_164 : decode cX6_init 164 = .ok (.aload_n 0, 1) := by decide +kernel
theorem dX6_init_165 : decode cX6_init 165 = .ok (.getfield 26, 3) := by decide +kernel
theorem dX6_init_168 : decode cX6_init 168 = .ok (.iconst 0, 1) := by decide +kernel
theorem dX6_init_169 : decode cX6_init 169 = .ok (.invokevirtual 74, 3) := by decide +kernel
theorem dX6_init_172 : decode cX6_init 172 = .ok (.pop, 1) := by decide +kernel
theorem dX6_init_173 : decode cX6_init 173 = .ok (.aload_n 0, 1) := by decide +kernel
theorem dX6_init_174 : decode cX6_init 174 = .ok (.iconst 0, 1) := by decide +kernel
theorem dX6_init_175 : decode cX6_init 175 = .ok (.invokevirtual 78, 3) := by decide +kernel
theorem dX6_init_178 : decode cX6_init 178 = .ok (.aload_n 0, 1) := by decide +kernel
theorem dX6_init_179 : decode cX6_init 179 = .ok (.iconst 1, 1) := by decide +kernel
theorem dX6_init_180 : decode cX6_init 180 = .ok (.invokevirtual 78, 3) := by decide +kernel
theorem dX6_init_183 : decode cX6_init 183 = .ok (.aload_n 0, 1) := by decide +kernel
theorem dX6_init_184 : decode cX6_init 184 = .ok (.iconst 2, 1) := by decide +kernel
theorem dX6_init_185 : decode cX6_init 185 = .ok (.invokevirtual 78, 3) := by decide +kernel
theorem dX6_init_188 : decode cX6_init 188 = .ok (.return_, 1) := by decide +kernel
theorem dX6_feed_0 : decode cX6_feed 0 = .ok (.aload_n 0, 1) := by decide +kernel
theorem dX6_feed_1 : decode cX6_feed 1 = .ok (.iload_n 1, 1) := by decide +kernel
theorem dX6_feed_2 : decode cX6_feed 2 = .ok (.aload_n 0, 1) := by decide +kernel
theorem dX6_feed_3 : decode cX6_feed 3 = .ok (.getfield 82, 3) := by decide +kernel
theorem dX6_feed_6 : decode cX6_feed 6 = .ok (.invokevirtual 86, 3) := by decide +kernel
theorem dX6_feed_9 : decode cX6_feed 9 = .ok (.istore 6, 2) := by decide +kernel
theorem dX6_feed_11 : decode cX6_feed 11 = .ok (.aload_n 0, 1) := by decide +kernel
theorem dX6_feed_12 : decode cX6_feed 12 = .ok (.iload_n 2, 1) := by decide +kernel
theorem dX6_feed_13 : decode cX6_feed 13 = .ok (.iload 6, 2) := by decide +kernel
theorem dX6_feed_15 : decode cX6_feed 15 = .ok (.invokevirtual 86, 3) := by decide +kernel
theorem dX6_feed_18 : decode cX6_feed 18 = .ok (.istore 6, 2) := by decide +kernel
theorem dX6_feed_20 : decode cX6_feed 20 = .ok (.aload_n 0, 1) := by decide +kernel
theorem dX6_feed_21 : decode cX6_feed 21 = .ok (.iload_n 3, 1) := by decide +kernel
theorem dX6_feed_22 : decode cX6_feed 22 = .ok (.iload 6, 2) := by decide +kernel
theorem dX6_feed_24 : decode cX6_feed 24 = .ok (.invokevirtual 86, 3) := by decide +kernel
theorem dX6_feed_27 : decode cX6_feed 27 = .ok (.istore 6, 2) := by decide +kernel
theorem dX6_feed_29 : decode cX6_feed 29 = .ok (.aload_n 0, 1) := by decide +kernel
theorem dX6_feed_30 : decode cX6_feed 30 = .ok (.iload 4, 2) := by decide +kernel
theorem dX6_feed_32 : decode cX6_feed 32 = .ok (.iload 6, 2) := by decide +kernel
theorem dX6_feed_34 : decode cX6_feed 34 = .ok (.invokevirtual 86, 3) := by decide +kernel
theorem dX6_feed_37 : decode cX6_feed 37 = .ok (.istore 6, 2) := by decide +kernel
theorem dX6_feed_39 : decode cX6_feed 39 = .ok (.aload_n 0, 1) := by decide +kernel
theorem dX6_feed_40 : decode cX6_feed 40 = .ok (.iload 5, 2) := by decide +kernel
theorem dX6_feed_42 : decode cX6_feed 42 = .ok (.iload 6, 2) := by decide +kernel
theorem dX6_feed_44 : decode cX6_feed 44 = .ok (.invokevirtual 86, 3) := by decide +kernel
theorem dX6_feed_47 : decode cX6_feed 47 = .ok (.istore 6, 2) := by decide +kernel
theorem dX6_feed_49 : decode cX6_feed 49 = .ok (.iload 6, 2) := by decide +kernel
theorem dX6_feed_51 : decode cX6_feed 51 = .ok (.sipush 240, 3) := by decide +kernel
theorem dX6_feed_54 : decode cX6_feed 54 = .ok (.if_icmp .le 5, 3) := by decide +kernel
theorem dX6_feed_57 : decode cX6_feed 57 = .ok (.iconst (-1), 1) := by decide +kernel
theorem dX6_feed_58 : decode cX6_feed 58 = .ok (.ireturn, 1) := by decide +kernel
theorem dX6_feed_59 : decode cX6_feed 59 = .ok (.aload_n 0, 1) := by decide +kernel
theorem dX6_feed_60 : decode cX6_feed 60 = .ok (.iload 6, 2) := by decide +kernel
theorem dX6_feed_62 : decode cX6_feed 62 = .ok (.putfield 82, 3) := by decide +kernel
theorem dX6_feed_65 : decode cX6_feed 65 = .ok (.iload 6, 2) := by decide +kernel
theorem dX6_feed_67 : decode cX6_feed 67 = .ok (.ireturn, 1) := by decide +kernel
theorem dX6_end_0 : decode cX6_end 0 = .ok (.iload_n 1, 1) := by decide +kernel
theorem dX6_end_1 : decode cX6_end 1 = .ok (.ifCond .lt 11, 3) := by decide +kernel
theorem dX6_end_4 : decode cX6_end 4 = .ok (.iload_n 1, 1) := by decide +kernel
theorem dX6_end_5 : decode cX6_end 5 = .ok (.aload_n 0, 1) := by decide +kernel
theorem dX6_end_6 : decode cX6_end 6 = .ok (.getfield 82, 3) := by decide +kernel
theorem dX6_end_9 : decode cX6_end 9 = .ok (.if_icmp .le 5, 3) := by decide +kernel
theorem dX6_end_12 : decode cX6_end 12 = .ok (.iconst 0, 1) := by decide +kernel
theorem dX6_end_13 : decode cX6_end 13 = .ok (.ireturn, 1) := by decide +kernel
theorem dX6_end_14 : decode cX6_end 14 = .ok (.aload_n 0, 1) := by decide +kernel
theorem dX6_end_15 : decode cX6_end 15 = .ok (.iload_n 1, 1) := by decide +kernel
theorem dX6_end_16 : decode cX6_end 16 = .ok (.putfield 82, 3) := by decide +kernel
theorem dX6_end_19 : decode cX6_end 19 = .ok (.iconst 1, 1) := by decide +kernel
theorem dX6_end_20 : decode cX6_end 20 = .ok (.ireturn, 1) := by decide +kernel
theorem dX6_fault_0 : decode cX6_fault 0 = .ok (.aload_n 0, 1) := by decide +kernel
theorem dX6_fault_1 : decode cX6_fault 1 = .ok (.iload_n 1, 1) := by decide +kernel
theorem dX6_fault_2 : decode cX6_fault 2 = .ok (.invokevirtual 90, 3) := by decide +kernel
theorem dX6_fault_5 : decode cX6_fault 5 = .ok (.ireturn, 1) := by decide +kernel
theorem dX6_take_0 : decode cX6_take 0 = .ok (.aload_n 0, 1) := by decide +kernel
theorem dX6_take_1 : decode cX6_take 1 = .ok (.iload_n 1, 1) := by decide +kernel
theorem dX6_take_2 : decode cX6_take 2 = .ok (.invokevirtual 90, 3) := by decide +kernel
theorem dX6_take_5 : decode cX6_take 5 = .ok (.iconst (-1), 1) := by decide +kernel
theorem dX6_take_6 : decode cX6_take 6 = .ok (.if_icmp .eq 5, 3) := by decide +kernel
theorem dX6_take_9 : decode cX6_take 9 = .ok (.iconst 0, 1) := by decide +kernel
theorem dX6_take_10 : decode cX6_take 10 = .ok (.ireturn, 1) := by decide +kernel
theorem dX6_take_11 : decode cX6_take 11 = .ok (.aload_n 0, 1) := by decide +kernel
theorem dX6_take_12 : decode cX6_take 12 = .ok (.iload_n 1, 1) := by decide +kernel
theorem dX6_take_13 : decode cX6_take 13 = .ok (.invokevirtual 78, 3) := by decide +kernel
theorem dX6_take_16 : decode cX6_take 16 = .ok (.aload_n 0, 1) := by decide +kernel
theorem dX6_take_17 : decode cX6_take 17 = .ok (.iconst 0, 1) := by decide +kernel
theorem dX6_take_18 : decode cX6_take 18 = .ok (.putfield 82, 3) := by decide +kernel
theorem dX6_take_21 : decode cX6_take 21 = .ok (.iload_n 1, 1) := by decide +kernel
theorem dX6_take_22 : decode cX6_take 22 = .ok (.ifCond .ne 13, 3) := by decide +kernel
theorem dX6_take_25 : decode cX6_take 25 = .ok (.aload_n 0, 1) := by decide +kernel
theorem dX6_take_26 : decode cX6_take 26 = .ok (.getfield 66, 3) := by decide +kernel
theorem dX6_take_29 : decode cX6_take 29 = .ok (.invokevirtual 94, 3) := by decide +kernel
theorem dX6_take_32 : decode cX6_take 32 = .ok (.goto 15, 3) := by decide +kernel
theorem dX6_take_35 : decode cX6_take 35 = .ok (.iload_n 1, 1) := by decide +kernel
theorem dX6_take_36 : decode cX6_take 36 = .ok (.iconst 1, 1) := by decide +kernel
theorem dX6_take_37 : decode cX6_take 37 = .ok (.if_icmp .ne 10, 3) := by decide +kernel
theorem dX6_take_40 : decode cX6_take 40 = .ok (.aload_n 0, 1) := by decide +kernel
theorem dX6_take_41 : decode cX6_take 41 = .ok (.getfield 41, 3) := by decide +kernel
theorem dX6_take_44 : decode cX6_take 44 = .ok (.invokevirtual 97, 3) := by decide +kernel
theorem dX6_take_47 : decode cX6_take 47 = .ok (.iconst 1, 1) := by decide +kernel
theorem dX6_take_48 : decode cX6_take 48 = .ok (.ireturn, 1) := by decide +kernel
theorem dX6_differ_0 : decode cX6_differ 0 = .ok (.iload_n 1, 1) := by decide +kernel
theorem dX6_differ_1 : decode cX6_differ 1 = .ok (.invokestatic 100, 3) := by decide +kernel
theorem dX6_differ_4 : decode cX6_differ 4 = .ok (.ifCond .eq 28, 3) := by decide +kernel
theorem dX6_differ_7 : decode cX6_differ 7 = .ok (.iload_n 2, 1) := by decide +kernel
theorem dX6_differ_8 : decode cX6_differ 8 = .ok (.invokestatic 100, 3) := by decide +kernel
theorem dX6_differ_11 : decode cX6_differ 11 = .ok (.ifCond .eq 21, 3) := by decide +kernel
theorem dX6_differ_14 : decode cX6_differ 14 = .ok (.iload_n 1, 1) := by decide +kernel
theorem dX6_differ_15 : decode cX6_differ 15 = .ok (.iload_n 2, 1) := by decide +kernel
theorem dX6_differ_16 : decode cX6_differ 16 = .ok (.if_icmp .eq 16, 3) := by decide +kernel
theorem dX6_differ_19 : decode cX6_differ 19 = .ok (.aload_n 0, 1) := by decide +kernel
theorem dX6_differ_20 : decode cX6_differ 20 = .ok (.getfield 41, 3) := by decide +kernel
theorem dX6_differ_23 : decode cX6_differ 23 = .ok (.iload_n 1, 1) := by decide +kernel
theorem dX6_differ_24 : decode cX6_differ 24 = .ok (.iload_n 2, 1) := by decide +kernel
theorem dX6_differ_25 : decode cX6_differ 25 = .ok (.invokevirtual 104, 3) := by decide +kernel
theorem dX6_differ_28 : decode cX6_differ 28 = .ok (.iload_n 3, 1) := by decide +kernel
theorem dX6_differ_29 : decode cX6_differ 29 = .ok (.if_icmp .ne 5, 3) := by decide +kernel
theorem dX6_differ_32 : decode cX6_differ 32 = .ok (.iconst 0, 1) := by decide +kernel
theorem dX6_differ_33 : decode cX6_differ 33 = .ok (.ireturn, 1) := by decide +kernel
theorem dX6_differ_34 : decode cX6_differ 34 = .ok (.aload_n 0, 1) := by decide +kernel
theorem dX6_differ_35 : decode cX6_differ 35 = .ok (.getfield 41, 3) := by decide +kernel
theorem dX6_differ_38 : decode cX6_differ 38 = .ok (.iload_n 1, 1) := by decide +kernel
theorem dX6_differ_39 : decode cX6_differ 39 = .ok (.iload_n 2, 1) := by decide +kernel
theorem dX6_differ_40 : decode cX6_differ 40 = .ok (.iload_n 3, 1) := by decide +kernel
theorem dX6_differ_41 : decode cX6_differ 41 = .ok (.invokevirtual 108, 3) := by decide +kernel
theorem dX6_differ_44 : decode cX6_differ 44 = .ok (.iconst 1, 1) := by decide +kernel
end
section
theorem dX6_differ_45 : decode cX6_differ 45 = .ok (.ireturn, 1) := by decide +kernel
theorem dX6_nodes_0 : decode cX6_nodes 0 = .ok (.aload_n 0, 1) := by decide +kernel
theorem dX6_nodes_1 : decode cX6_nodes 1 = .ok (.getfield 16, 3) := by decide +kernel
theorem dX6_nodes_4 : decode cX6_nodes 4 = .ok (.getfield 112, 3) := by decide +kernel
theorem dX6_nodes_7 : decode cX6_nodes 7 = .ok (.ireturn, 1) := by decide +kernel
theorem dX6_node_0 : decode cX6_node 0 = .ok (.aload_n 0, 1) := by decide +kernel
theorem dX6_node_1 : decode cX6_node 1 = .ok (.iload_n 1, 1) := by decide +kernel
theorem dX6_node_2 : decode cX6_node 2 = .ok (.invokevirtual 115, 3) := by decide +kernel
theorem dX6_node_5 : decode cX6_node 5 = .ok (.ifCond .ne 5, 3) := by decide +kernel
theorem dX6_node_8 : decode cX6_node 8 = .ok (.iconst (-1), 1) := by decide +kernel
theorem dX6_node_9 : decode cX6_node 9 = .ok (.ireturn, 1) := by decide +kernel
theorem dX6_node_10 : decode cX6_node 10 = .ok (.iload_n 2, 1) := by decide +kernel
theorem dX6_node_11 : decode cX6_node 11 = .ok (.tableswitch 73 0 3 #[29, 39, 49, 63], 29) := by decide +kernel
theorem dX6_node_40 : decode cX6_node 40 = .ok (.aload_n 0, 1) := by decide +kernel
theorem dX6_node_41 : decode cX6_node 41 = .ok (.getfield 16, 3) := by decide +kernel
theorem dX6_node_44 : decode cX6_node 44 = .ok (.getfield 118, 3) := by decide +kernel
theorem dX6_node_47 : decode cX6_node 47 = .ok (.iload_n 1, 1) := by decide +kernel
theorem dX6_node_48 : decode cX6_node 48 = .ok (.iaload, 1) := by decide +kernel
theorem dX6_node_49 : decode cX6_node 49 = .ok (.ireturn, 1) := by decide +kernel
theorem dX6_node_50 : decode cX6_node 50 = .ok (.aload_n 0, 1) := by decide +kernel
theorem dX6_node_51 : decode cX6_node 51 = .ok (.getfield 16, 3) := by decide +kernel
theorem dX6_node_54 : decode cX6_node 54 = .ok (.getfield 121, 3) := by decide +kernel
theorem dX6_node_57 : decode cX6_node 57 = .ok (.iload_n 1, 1) := by decide +kernel
theorem dX6_node_58 : decode cX6_node 58 = .ok (.iaload, 1) := by decide +kernel
theorem dX6_node_59 : decode cX6_node 59 = .ok (.ireturn, 1) := by decide +kernel
theorem dX6_node_60 : decode cX6_node 60 = .ok (.iconst 0, 1) := by decide +kernel
theorem dX6_node_61 : decode cX6_node 61 = .ok (.aload_n 0, 1) := by decide +kernel
theorem dX6_node_62 : decode cX6_node 62 = .ok (.getfield 16, 3) := by decide +kernel
theorem dX6_node_65 : decode cX6_node 65 = .ok (.getfield 124, 3) := by decide +kernel
theorem dX6_node_68 : decode cX6_node 68 = .ok (.iload_n 1, 1) := by decide +kernel
theorem dX6_node_69 : decode cX6_node 69 = .ok (.iaload, 1) := by decide +kernel
theorem dX6_node_70 : decode cX6_node 70 = .ok (.invokestatic 127, 3) := by decide +kernel
theorem dX6_node_73 : decode cX6_node 73 = .ok (.ireturn, 1) := by decide +kernel
theorem dX6_node_74 : decode cX6_node 74 = .ok (.aload_n 0, 1) := by decide +kernel
theorem dX6_node_75 : decode cX6_node 75 = .ok (.getfield 16, 3) := by decide +kernel
theorem dX6_node_78 : decode cX6_node 78 = .ok (.getfield 132, 3) := by decide +kernel
theorem dX6_node_81 : decode cX6_node 81 = .ok (.iload_n 1, 1) := by decide +kernel
theorem dX6_node_82 : decode cX6_node 82 = .ok (.iaload, 1) := by decide +kernel
theorem dX6_node_83 : decode cX6_node 83 = .ok (.ireturn, 1) := by decide +kernel
theorem dX6_node_84 : decode cX6_node 84 = .ok (.iconst (-1), 1) := by decide +kernel
theorem dX6_node_85 : decode cX6_node 85 = .ok (.ireturn, 1) := by decide +kernel
theorem dX6_alike_0 : decode cX6_alike 0 = .ok (.aload_n 0, 1) := by decide +kernel
theorem dX6_alike_1 : decode cX6_alike 1 = .ok (.iload_n 1, 1) := by decide +kernel
theorem dX6_alike_2 : decode cX6_alike 2 = .ok (.invokevirtual 115, 3) := by decide +kernel
theorem dX6_alike_5 : decode cX6_alike 5 = .ok (.ifCond .eq 36, 3) := by decide +kernel
theorem dX6_alike_8 : decode cX6_alike 8 = .ok (.aload_n 0, 1) := by decide +kernel
theorem dX6_alike_9 : decode cX6_alike 9 = .ok (.iload_n 2, 1) := by decide +kernel
theorem dX6_alike_10 : decode cX6_alike 10 = .ok (.invokevirtual 115, 3) := by decide +kernel
theorem dX6_alike_13 : decode cX6_alike 13 = .ok (.ifCond .eq 28, 3) := by decide +kernel
theorem dX6_alike_16 : decode cX6_alike 16 = .ok (.aload_n 0, 1) := by decide +kernel
theorem dX6_alike_17 : decode cX6_alike 17 = .ok (.getfield 16, 3) := by decide +kernel
theorem dX6_alike_20 : decode cX6_alike 20 = .ok (.getfield 135, 3) := by decide +kernel
theorem dX6_alike_23 : decode cX6_alike 23 = .ok (.iload_n 1, 1) := by decide +kernel
theorem dX6_alike_24 : decode cX6_alike 24 = .ok (.iaload, 1) := by decide +kernel
theorem dX6_alike_25 : decode cX6_alike 25 = .ok (.aload_n 0, 1) := by decide +kernel
theorem dX6_alike_26 : decode cX6_alike 26 = .ok (.getfield 16, 3) := by decide +kernel
theorem dX6_alike_29 : decode cX6_alike 29 = .ok (.getfield 135, 3) := by decide +kernel
theorem dX6_alike_32 : decode cX6_alike 32 = .ok (.iload_n 2, 1) := by decide +kernel
theorem dX6_alike_33 : decode cX6_alike 33 = .ok (.iaload, 1) := by decide +kernel
theorem dX6_alike_34 : decode cX6_alike 34 = .ok (.if_icmp .ne 7, 3) := by decide +kernel
theorem dX6_alike_37 : decode cX6_alike 37 = .ok (.iconst 1, 1) := by decide +kernel
theorem dX6_alike_38 : decode cX6_alike 38 = .ok (.goto 4, 3) := by decide +kernel
theorem dX6_alike_41 : decode cX6_alike 41 = .ok (.iconst 0, 1) := by decide +kernel
theorem dX6_alike_42 : decode cX6_alike 42 = .ok (.ireturn, 1) := by decide +kernel
theorem dX6_matches_0 : decode cX6_matches 0 = .ok (.aload_n 0, 1) := by decide +kernel
theorem dX6_matches_1 : decode cX6_matches 1 = .ok (.getfield 41, 3) := by decide +kernel
theorem dX6_matches_4 : decode cX6_matches 4 = .ok (.invokevirtual 138, 3) := by decide +kernel
theorem dX6_matches_7 : decode cX6_matches 7 = .ok (.ireturn, 1) := by decide +kernel
theorem dX6_match_0 : decode cX6_match 0 = .ok (.aload_n 0, 1) := by decide +kernel
theorem dX6_match_1 : decode cX6_match 1 = .ok (.getfield 41, 3) := by decide +kernel
theorem dX6_match_4 : decode cX6_match 4 = .ok (.iload_n 1, 1) := by decide +kernel
theorem dX6_match_5 : decode cX6_match 5 = .ok (.invokevirtual 142, 3) := by decide +kernel
theorem dX6_match_8 : decode cX6_match 8 = .ok (.ireturn, 1) := by decide +kernel
theorem dX6_hole_0 : decode cX6_hole 0 = .ok (.aload_n 0, 1) := by decide +kernel
theorem dX6_hole_1 : decode cX6_hole 1 = .ok (.iload_n 1, 1) := by decide +kernel
theorem dX6_hole_2 : decode cX6_hole 2 = .ok (.iload_n 2, 1) := by decide +kernel
theorem dX6_hole_3 : decode cX6_hole 3 = .ok (.invokevirtual 145, 3) := by decide +kernel
theorem dX6_hole_6 : decode cX6_hole 6 = .ok (.ifCond .eq 14, 3) := by decide +kernel
theorem dX6_hole_9 : decode cX6_hole 9 = .ok (.aload_n 0, 1) := by decide +kernel
theorem dX6_hole_10 : decode cX6_hole 10 = .ok (.getfield 41, 3) := by decide +kernel
theorem dX6_hole_13 : decode cX6_hole 13 = .ok (.iload_n 2, 1) := by decide +kernel
theorem dX6_hole_14 : decode cX6_hole 14 = .ok (.invokevirtual 148, 3) := by decide +kernel
theorem dX6_hole_17 : decode cX6_hole 17 = .ok (.goto 4, 3) := by decide +kernel
theorem dX6_hole_20 : decode cX6_hole 20 = .ok (.iconst (-1), 1) := by decide +kernel
theorem dX6_hole_21 : decode cX6_hole 21 = .ok (.ireturn, 1) := by decide +kernel
theorem dX6_row_0 : decode cX6_row 0 = .ok (.aload_n 0, 1) := by decide +kernel
theorem dX6_row_1 : decode cX6_row 1 = .ok (.iload_n 1, 1) := by decide +kernel
theorem dX6_row_2 : decode cX6_row 2 = .ok (.iload_n 2, 1) := by decide +kernel
theorem dX6_row_3 : decode cX6_row 3 = .ok (.invokevirtual 145, 3) := by decide +kernel
theorem dX6_row_6 : decode cX6_row 6 = .ok (.ifCond .eq 14, 3) := by decide +kernel
theorem dX6_row_9 : decode cX6_row 9 = .ok (.aload_n 0, 1) := by decide +kernel
theorem dX6_row_10 : decode cX6_row 10 = .ok (.getfield 41, 3) := by decide +kernel
theorem dX6_row_13 : decode cX6_row 13 = .ok (.iload_n 2, 1) := by decide +kernel
theorem dX6_row_14 : decode cX6_row 14 = .ok (.invokevirtual 151, 3) := by decide +kernel
theorem dX6_row_17 : decode cX6_row 17 = .ok (.goto 4, 3) := by decide +kernel
theorem dX6_row_20 : decode cX6_row 20 = .ok (.iconst (-1), 1) := by decide +kernel
theorem dX6_row_21 : decode cX6_row 21 = .ok (.ireturn, 1) := by decide +kernel
theorem dX6_taken_0 : decode cX6_taken 0 = .ok (.iload_n 1, 1) := by decide +kernel
theorem dX6_taken_1 : decode cX6_taken 1 = .ok (.invokestatic 154, 3) := by decide +kernel
theorem dX6_taken_4 : decode cX6_taken 4 = .ok (.ifCond .ne 5, 3) := by decide +kernel
theorem dX6_taken_7 : decode cX6_taken 7 = .ok (.iconst (-1), 1) := by decide +kernel
theorem dX6_taken_8 : decode cX6_taken 8 = .ok (.ireturn, 1) := by decide +kernel
theorem dX6_taken_9 : decode cX6_taken 9 = .ok (.aload_n 0, 1) := by decide +kernel
theorem dX6_taken_10 : decode cX6_taken 10 = .ok (.getfield 41, 3) := by decide +kernel
theorem dX6_taken_13 : decode cX6_taken 13 = .ok (.invokevirtual 157, 3) := by decide +kernel
theorem dX6_taken_16 : decode cX6_taken 16 = .ok (.aload_n 0, 1) := by decide +kernel
theorem dX6_taken_17 : decode cX6_taken 17 = .ok (.getfield 50, 3) := by decide +kernel
theorem dX6_taken_20 : decode cX6_taken 20 = .ok (.iload_n 1, 1) := by decide +kernel
theorem dX6_taken_21 : decode cX6_taken 21 = .ok (.invokevirtual 160, 3) := by decide +kernel
theorem dX6_taken_24 : decode cX6_taken 24 = .ok (.aload_n 0, 1) := by decide +kernel
theorem dX6_taken_25 : decode cX6_taken 25 = .ok (.getfield 50, 3) := by decide +kernel
theorem dX6_taken_28 : decode cX6_taken 28 = .ok (.getfield 163, 3) := by decide +kernel
theorem dX6_taken_31 : decode cX6_taken 31 = .ok (.ireturn, 1) := by decide +kernel
theorem dX6_takes_0 : decode cX6_takes 0 = .ok (.iload_n 1, 1) := by decide +kernel
theorem dX6_takes_1 : decode cX6_takes 1 = .ok (.invokestatic 154, 3) := by decide +kernel
theorem dX6_takes_4 : decode cX6_takes 4 = .ok (.ifCond .ne 5, 3) := by decide +kernel
theorem dX6_takes_7 : decode cX6_takes 7 = .ok (.iconst (-1), 1) := by decide +kernel
theorem dX6_takes_8 : decode cX6_takes 8 = .ok (.ireturn, 1) := by decide +kernel
theorem dX6_takes_9 : decode cX6_takes 9 = .ok (.aload_n 0, 1) := by decide +kernel
theorem dX6_takes_10 : decode cX6_takes 10 = .ok (.getfield 41, 3) := by decide +kernel
theorem dX6_takes_13 : decode cX6_takes 13 = .ok (.invokevirtual 157, 3) := by decide +kernel
theorem dX6_takes_16 : decode cX6_takes 16 = .ok (.aload_n 0, 1) := by decide +kernel
theorem dX6_takes_17 : decode cX6_takes 17 = .ok (.getfield 50, 3) := by decide +kernel
theorem dX6_takes_20 : decode cX6_takes 20 = .ok (.iload_n 1, 1) := by decide +kernel
theorem dX6_takes_21 : decode cX6_takes 21 = .ok (.invokevirtual 160, 3) := by decide +kernel
theorem dX6_takes_24 : decode cX6_takes 24 = .ok (.iload_n 2, 1) := by decide +kernel
theorem dX6_takes_25 : decode cX6_takes 25 = .ok (.ifCond .lt 26, 3) := by decide +kernel
theorem dX6_takes_28 : decode cX6_takes 28 = .ok (.iload_n 2, 1) := by decide +kernel
theorem dX6_takes_29 : decode cX6_takes 29 = .ok (.aload_n 0, 1) := by decide +kernel
theorem dX6_takes_30 : decode cX6_takes 30 = .ok (.getfield 50, 3) := by decide +kernel
theorem dX6_takes_33 : decode cX6_takes 33 = .ok (.getfield 163, 3) := by decide +kernel
theorem dX6_takes_36 : decode cX6_takes 36 = .ok (.if_icmp .ge 15, 3) := by decide +kernel
theorem dX6_takes_39 : decode cX6_takes 39 = .ok (.aload_n 0, 1) := by decide +kernel
theorem dX6_takes_40 : decode cX6_takes 40 = .ok (.getfield 50, 3) := by decide +kernel
theorem dX6_takes_43 : decode cX6_takes 43 = .ok (.getfield 166, 3) := by decide +kernel
theorem dX6_takes_46 : decode cX6_takes 46 = .ok (.iload_n 2, 1) := by decide +kernel
theorem dX6_takes_47 : decode cX6_takes 47 = .ok (.iaload, 1) := by decide +kernel
theorem dX6_takes_48 : decode cX6_takes 48 = .ok (.goto 4, 3) := by decide +kernel
theorem dX6_takes_51 : decode cX6_takes 51 = .ok (.iconst (-1), 1) := by decide +kernel
theorem dX6_takes_52 : decode cX6_takes 52 = .ok (.ireturn, 1) := by decide +kernel
theorem dX6_put_0 : decode cX6_put 0 = .ok (.aload_n 0, 1) := by decide +kernel
theorem dX6_put_1 : decode cX6_put 1 = .ok (.iload_n 1, 1) := by decide +kernel
theorem dX6_put_2 : decode cX6_put 2 = .ok (.invokevirtual 169, 3) := by decide +kernel
theorem dX6_put_5 : decode cX6_put 5 = .ok (.ifCond .ne 6, 3) := by decide +kernel
theorem dX6_put_8 : decode cX6_put 8 = .ok (.bipush (-2), 2) := by decide +kernel
theorem dX6_put_10 : decode cX6_put 10 = .ok (.ireturn, 1) := by decide +kernel
theorem dX6_put_11 : decode cX6_put 11 = .ok (.aload_n 0, 1) := by decide +kernel
theorem dX6_put_12 : decode cX6_put 12 = .ok (.getfield 66, 3) := by decide +kernel
theorem dX6_put_15 : decode cX6_put 15 = .ok (.aload_n 0, 1) := by decide +kernel
theorem dX6_put_16 : decode cX6_put 16 = .ok (.getfield 16, 3) := by decide +kernel
theorem dX6_put_19 : decode cX6_put 19 = .ok (.invokevirtual 172, 3) := by decide +kernel
theorem dX6_put_22 : decode cX6_put 22 = .ok (.aload_n 0, 1) := by decide +kernel
theorem dX6_put_23 : decode cX6_put 23 = .ok (.iload_n 1, 1) := by decide +kernel
theorem dX6_put_24 : decode cX6_put 24 = .ok (.invokevirtual 176, 3) := by decide +kernel
theorem dX6_put_27 : decode cX6_put 27 = .ok (.istore_n 2, 1) := by decide +kernel
theorem dX6_put_28 : decode cX6_put 28 = .ok (.iload_n 2, 1) := by decide +kernel
theorem dX6_put_29 : decode cX6_put 29 = .ok (.bipush (-2), 2) := by decide +kernel
theorem dX6_put_31 : decode cX6_put 31 = .ok (.if_icmp .eq 10, 3) := by decide +kernel
theorem dX6_put_34 : decode cX6_put 34 = .ok (.aload_n 0, 1) := by decide +kernel
theorem dX6_put_35 : decode cX6_put 35 = .ok (.getfield 66, 3) := by decide +kernel
theorem dX6_put_38 : decode cX6_put 38 = .ok (.invokevirtual 179, 3) := by decide +kernel
theorem dX6_put_41 : decode cX6_put 41 = .ok (.iload_n 2, 1) := by decide +kernel
theorem dX6_put_42 : decode cX6_put 42 = .ok (.ireturn, 1) := by decide +kernel
theorem dX6_putAll_0 : decode cX6_putAll 0 = .ok (.aload_n 0, 1) := by decide +kernel
theorem dX6_putAll_1 : decode cX6_putAll 1 = .ok (.iload_n 1, 1) := by decide +kernel
theorem dX6_putAll_2 : decode cX6_putAll 2 = .ok (.invokevirtual 169, 3) := by decide +kernel
theorem dX6_putAll_5 : decode cX6_putAll 5 = .ok (.ifCond .ne 6, 3) := by decide +kernel
theorem dX6_putAll_8 : decode cX6_putAll 8 = .ok (.bipush (-2), 2) := by decide +kernel
theorem dX6_putAll_10 : decode cX6_putAll 10 = .ok (.ireturn, 1) := by decide +kernel
theorem dX6_putAll_11 : decode cX6_putAll 11 = .ok (.aload_n 0, 1) := by decide +kernel
theorem dX6_putAll_12 : decode cX6_putAll 12 = .ok (.getfield 66, 3) := by decide +kernel
theorem dX6_putAll_15 : decode cX6_putAll 15 = .ok (.aload_n 0, 1) := by decide +kernel
theorem dX6_putAll_16 : decode cX6_putAll 16 = .ok (.getfield 16, 3) := by decide +kernel
theorem dX6_putAll_19 : decode cX6_putAll 19 = .ok (.invokevirtual 172, 3) := by decide +kernel
theorem dX6_putAll_22 : decode cX6_putAll 22 = .ok (.iconst 0, 1) := by decide +kernel
theorem dX6_putAll_23 : decode cX6_putAll 23 = .ok (.istore_n 2, 1) := by decide +kernel
theorem dX6_putAll_24 : decode cX6_putAll 24 = .ok (.iload_n 2, 1) := by decide +kernel
theorem dX6_putAll_25 : decode cX6_putAll 25 = .ok (.bipush 20, 2) := by decide +kernel
theorem dX6_putAll_27 : decode cX6_putAll 27 = .ok (.if_icmp .gt 50, 3) := by decide +kernel
theorem dX6_putAll_30 : decode cX6_putAll 30 = .ok (.aload_n 0, 1) := by decide +kernel
theorem dX6_putAll_31 : decode cX6_putAll 31 = .ok (.iload_n 1, 1) := by decide +kernel
theorem dX6_putAll_32 : decode cX6_putAll 32 = .ok (.invokevirtual 176, 3) := by decide +kernel
theorem dX6_putAll_35 : decode cX6_putAll 35 = .ok (.istore_n 3, 1) := by decide +kernel
theorem dX6_putAll_36 : decode cX6_putAll 36 = .ok (.iload_n 3, 1) := by decide +kernel
theorem dX6_putAll_37 : decode cX6_putAll 37 = .ok (.ifCond .ne 12, 3) := by decide +kernel
theorem dX6_putAll_40 : decode cX6_putAll 40 = .ok (.aload_n 0, 1) := by decide +kernel
theorem dX6_putAll_41 : decode cX6_putAll 41 = .ok (.getfield 66, 3) := by decide +kernel
theorem dX6_putAll_44 : decode cX6_putAll 44 = .ok (.invokevirtual 179, 3) := by decide +kernel
theorem dX6_putAll_47 : decode cX6_putAll 47 = .ok (.iload_n 2, 1) := by decide +kernel
theorem dX6_putAll_48 : decode cX6_putAll 48 = .ok (.ireturn, 1) := by decide +kernel
theorem dX6_putAll_49 : decode cX6_putAll 49 = .ok (.iload_n 3, 1) := by decide +kernel
theorem dX6_putAll_50 : decode cX6_putAll 50 = .ok (.bipush (-2), 2) := by decide +kernel
theorem dX6_putAll_52 : decode cX6_putAll 52 = .ok (.if_icmp .ne 10, 3) := by decide +kernel
theorem dX6_putAll_55 : decode cX6_putAll 55 = .ok (.iload_n 2, 1) := by decide +kernel
theorem dX6_putAll_56 : decode cX6_putAll 56 = .ok (.ifCond .ne 6, 3) := by decide +kernel
theorem dX6_putAll_59 : decode cX6_putAll 59 = .ok (.bipush (-2), 2) := by decide +kernel
theorem dX6_putAll_61 : decode cX6_putAll 61 = .ok (.ireturn, 1) := by decide +kernel
theorem dX6_putAll_62 : decode cX6_putAll 62 = .ok (.iload_n 3, 1) := by decide +kernel
theorem dX6_putAll_63 : decode cX6_putAll 63 = .ok (.bipush (-2), 2) := by decide +kernel
theorem dX6_putAll_65 : decode cX6_putAll 65 = .ok (.if_icmp .ne 6, 3) := by decide +kernel
theorem dX6_putAll_68 : decode cX6_putAll 68 = .ok (.goto 9, 3) := by decide +kernel
theorem dX6_putAll_71 : decode cX6_putAll 71 = .ok (.iinc 2 1, 3) := by decide +kernel
theorem dX6_putAll_74 : decode cX6_putAll 74 = .ok (.goto (-50), 3) := by decide +kernel
theorem dX6_putAll_77 : decode cX6_putAll 77 = .ok (.aload_n 0, 1) := by decide +kernel
theorem dX6_putAll_78 : decode cX6_putAll 78 = .ok (.invokevirtual 182, 3) := by decide +kernel
theorem dX6_putAll_81 : decode cX6_putAll 81 = .ok (.iconst (-1), 1) := by decide +kernel
theorem dX6_putAll_82 : decode cX6_putAll 82 = .ok (.ireturn, 1) := by decide +kernel
theorem dX6_back_0 : decode cX6_back 0 = .ok (.aload_n 0, 1) := by decide +kernel
theorem dX6_back_1 : decode cX6_back 1 = .ok (.getfield 66, 3) := by decide +kernel
theorem dX6_back_4 : decode cX6_back 4 = .ok (.invokevirtual 185, 3) := by decide +kernel
theorem dX6_back_7 : decode cX6_back 7 = .ok (.ifCond .ne 5, 3) := by decide +kernel
theorem dX6_back_10 : decode cX6_back 10 = .ok (.iconst 0, 1) := by decide +kernel
theorem dX6_back_11 : decode cX6_back 11 = .ok (.ireturn, 1) := by decide +kernel
theorem dX6_back_12 : decode cX6_back 12 = .ok (.aload_n 0, 1) := by decide +kernel
theorem dX6_back_13 : decode cX6_back 13 = .ok (.invokevirtual 182, 3) := by decide +kernel
theorem dX6_back_16 : decode cX6_back 16 = .ok (.iconst 1, 1) := by decide +kernel
theorem dX6_back_17 : decode cX6_back 17 = .ok (.ireturn, 1) := by decide +kernel
theorem dX6_at_0 : decode cX6_at 0 = .ok (.iload_n 1, 1) := by decide +kernel
theorem dX6_at_1 : decode cX6_at 1 = .ok (.ifCond .lt 14, 3) := by decide +kernel
theorem dX6_at_4 : decode cX6_at 4 = .ok (.iload_n 1, 1) := by decide +kernel
theorem dX6_at_5 : decode cX6_at 5 = .ok (.aload_n 0, 1) := by decide +kernel
theorem dX6_at_6 : decode cX6_at 6 = .ok (.getfield 16, 3) := by decide +kernel
theorem dX6_at_9 : decode cX6_at 9 = .ok (.getfield 189, 3) := by decide +kernel
theorem dX6_at_12 : decode cX6_at 12 = .ok (.if_icmp .lt 13, 3) := by decide +kernel
theorem dX6_at_15 : decode cX6_at 15 = .ok (.new 192, 3) := by decide +kernel
theorem dX6_at_18 : decode cX6_at 18 = .ok (.dup, 1) := by decide +kernel
theorem dX6_at_19 : decode cX6_at 19 = .ok (.ldc 194, 2) := by decide +kernel
theorem dX6_at_21 : decode cX6_at 21 = .ok (.invokespecial 196, 3) := by decide +kernel
theorem dX6_at_24 : decode cX6_at 24 = .ok (.athrow, 1) := by decide +kernel
theorem dX6_at_25 : decode cX6_at 25 = .ok (.aload_n 0, 1) := by decide +kernel
theorem dX6_at_26 : decode cX6_at 26 = .ok (.getfield 16, 3) := by decide +kernel
theorem dX6_at_29 : decode cX6_at 29 = .ok (.getfield 199, 3) := by decide +kernel
theorem dX6_at_32 : decode cX6_at 32 = .ok (.iload_n 1, 1) := by decide +kernel
theorem dX6_at_33 : decode cX6_at 33 = .ok (.iaload, 1) := by decide +kernel
theorem dX6_at_34 : decode cX6_at 34 = .ok (.ireturn, 1) := by decide +kernel
theorem dX6_count_0 : decode cX6_count 0 = .ok (.iload_n 1, 1) := by decide +kernel
theorem dX6_count_1 : decode cX6_count 1 = .ok (.tableswitch 72 0 4 #[35, 43, 51, 59, 64], 35) := by decide +kernel
theorem dX6_count_36 : decode cX6_count 36 = .ok (.aload_n 0, 1) := by decide +kernel
theorem dX6_count_37 : decode cX6_count 37 = .ok (.getfield 16, 3) := by decide +kernel
theorem dX6_count_40 : decode cX6_count 40 = .ok (.getfield 189, 3) := by decide +kernel
theorem dX6_count_43 : decode cX6_count 43 = .ok (.ireturn, 1) := by decide +kernel
theorem dX6_count_44 : decode cX6_count 44 = .ok (.aload_n 0, 1) := by decide +kernel
theorem dX6_count_45 : decode cX6_count 45 = .ok (.getfield 20, 3) := by decide +kernel
theorem dX6_count_48 : decode cX6_count 48 = .ok (.getfield 189, 3) := by decide +kernel
theorem dX6_count_51 : decode cX6_count 51 = .ok (.ireturn, 1) := by decide +kernel
theorem dX6_count_52 : decode cX6_count 52 = .ok (.aload_n 0, 1) := by decide +kernel
theorem dX6_count_53 : decode cX6_count 53 = .ok (.getfield 23, 3) := by decide +kernel
theorem dX6_count_56 : decode cX6_count 56 = .ok (.getfield 189, 3) := by decide +kernel
theorem dX6_count_59 : decode cX6_count 59 = .ok (.ireturn, 1) := by decide +kernel
theorem dX6_count_60 : decode cX6_count 60 = .ok (.aload_n 0, 1) := by decide +kernel
theorem dX6_count_61 : decode cX6_count 61 = .ok (.getfield 82, 3) := by decide +kernel
theorem dX6_count_64 : decode cX6_count 64 = .ok (.ireturn, 1) := by decide +kernel
theorem dX6_count_65 : decode cX6_count 65 = .ok (.aload_n 0, 1) := by decide +kernel
theorem dX6_count_66 : decode cX6_count 66 = .ok (.getfield 66, 3) := by decide +kernel
theorem dX6_count_69 : decode cX6_count 69 = .ok (.getfield 202, 3) := by decide +kernel
theorem dX6_count_72 : decode cX6_count 72 = .ok (.ireturn, 1) := by decide +kernel
theorem dX6_count_73 : decode cX6_count 73 = .ok (.iconst (-1), 1) := by decide +kernel
theorem dX6_count_74 : decode cX6_count 74 = .ok (.ireturn, 1) := by decide +kernel
theorem dX6_writeFed_0 : decode cX6_writeFed 0 = .ok (.iload_n 2, 1) := by decide +kernel
theorem dX6_writeFed_1 : decode cX6_writeFed 1 = .ok (.istore_n 3, 1) := by decide +kernel
theorem dX6_writeFed_2 : decode cX6_writeFed 2 = .ok (.bipush 24, 2) := by decide +kernel
theorem dX6_writeFed_4 : decode cX6_writeFed 4 = .ok (.istore 4, 2) := by decide +kernel
theorem dX6_writeFed_6 : decode cX6_writeFed 6 = .ok (.iload 4, 2) := by decide +kernel
theorem dX6_writeFed_8 : decode cX6_writeFed 8 = .ok (.ifCond .lt 44, 3) := by decide +kernel
theorem dX6_writeFed_11 : decode cX6_writeFed 11 = .ok (.iload_n 1, 1) := by decide +kernel
theorem dX6_writeFed_12 : decode cX6_writeFed 12 = .ok (.iload 4, 2) := by decide +kernel
theorem dX6_writeFed_14 : decode cX6_writeFed 14 = .ok (.iushr, 1) := by decide +kernel
theorem dX6_writeFed_15 : decode cX6_writeFed 15 = .ok (.sipush 255, 3) := by decide +kernel
theorem dX6_writeFed_18 : decode cX6_writeFed 18 = .ok (.iand, 1) := by decide +kernel
theorem dX6_writeFed_19 : decode cX6_writeFed 19 = .ok (.istore 5, 2) := by decide +kernel
theorem dX6_writeFed_21 : decode cX6_writeFed 21 = .ok (.iload 5, 2) := by decide +kernel
theorem dX6_writeFed_23 : decode cX6_writeFed 23 = .ok (.ifCond .eq 23, 3) := by decide +kernel
theorem dX6_writeFed_26 : decode cX6_writeFed 26 = .ok (.iload_n 3, 1) := by decide +kernel
theorem dX6_writeFed_27 : decode cX6_writeFed 27 = .ok (.aload_n 0, 1) := by decide +kernel
theorem dX6_writeFed_28 : decode cX6_writeFed 28 = .ok (.getfield 9, 3) := by decide +kernel
theorem dX6_writeFed_31 : decode cX6_writeFed 31 = .ok (.arraylength, 1) := by decide +kernel
theorem dX6_writeFed_32 : decode cX6_writeFed 32 = .ok (.if_icmp .ge 14, 3) := by decide +kernel
theorem dX6_writeFed_35 : decode cX6_writeFed 35 = .ok (.aload_n 0, 1) := by decide +kernel
theorem dX6_writeFed_36 : decode cX6_writeFed 36 = .ok (.getfield 9, 3) := by decide +kernel
theorem dX6_writeFed_39 : decode cX6_writeFed 39 = .ok (.iload_n 3, 1) := by decide +kernel
theorem dX6_writeFed_40 : decode cX6_writeFed 40 = .ok (.iload 5, 2) := by decide +kernel
theorem dX6_writeFed_42 : decode cX6_writeFed 42 = .ok (.iastore, 1) := by decide +kernel
theorem dX6_writeFed_43 : decode cX6_writeFed 43 = .ok (.iinc 3 1, 3) := by decide +kernel
theorem dX6_writeFed_46 : decode cX6_writeFed 46 = .ok (.iinc 4 (-8), 3) := by decide +kernel
theorem dX6_writeFed_49 : decode cX6_writeFed 49 = .ok (.goto (-43), 3) := by decide +kernel
theorem dX6_writeFed_52 : decode cX6_writeFed 52 = .ok (.iload_n 3, 1) := by decide +kernel
theorem dX6_writeFed_53 : decode cX6_writeFed 53 = .ok (.ireturn, 1) := by decide +kernel
theorem dX6_readTape_0 : decode cX6_readTape 0 = .ok (.iload_n 1, 1) := by decide +kernel
theorem dX6_readTape_1 : decode cX6_readTape 1 = .ok (.ifCond .lt 21, 3) := by decide +kernel
theorem dX6_readTape_4 : decode cX6_readTape 4 = .ok (.iload_n 1, 1) := by decide +kernel
theorem dX6_readTape_5 : decode cX6_readTape 5 = .ok (.iconst 2, 1) := by decide +kernel
theorem dX6_readTape_6 : decode cX6_readTape 6 = .ok (.if_icmp .gt 16, 3) := by decide +kernel
theorem dX6_readTape_9 : decode cX6_readTape 9 = .ok (.iload_n 1, 1) := by decide +kernel
theorem dX6_readTape_10 : decode cX6_readTape 10 = .ok (.ifCond .eq 15, 3) := by decide +kernel
theorem dX6_readTape_13 : decode cX6_readTape 13 = .ok (.aload_n 0, 1) := by decide +kernel
theorem dX6_readTape_14 : decode cX6_readTape 14 = .ok (.getfield 82, 3) := by decide +kernel
theorem dX6_readTape_17 : decode cX6_readTape 17 = .ok (.bipush 80, 2) := by decide +kernel
theorem dX6_readTape_19 : decode cX6_readTape 19 = .ok (.if_icmp .le 6, 3) := by decide +kernel
theorem dX6_readTape_22 : decode cX6_readTape 22 = .ok (.bipush (-2), 2) := by decide +kernel
theorem dX6_readTape_24 : decode cX6_readTape 24 = .ok (.ireturn, 1) := by decide +kernel
theorem dX6_readTape_25 : decode cX6_readTape 25 = .ok (.aload_n 0, 1) := by decide +kernel
theorem dX6_readTape_26 : decode cX6_readTape 26 = .ok (.getfield 26, 3) := by decide +kernel
theorem dX6_readTape_29 : decode cX6_readTape 29 = .ok (.aload_n 0, 1) := by decide +kernel
theorem dX6_readTape_30 : decode cX6_readTape 30 = .ok (.getfield 9, 3) := by decide +kernel
theorem dX6_readTape_33 : decode cX6_readTape 33 = .ok (.aload_n 0, 1) := by decide +kernel
theorem dX6_readTape_34 : decode cX6_readTape 34 = .ok (.getfield 82, 3) := by decide +kernel
theorem dX6_readTape_37 : decode cX6_readTape 37 = .ok (.invokevirtual 70, 3) := by decide +kernel
theorem dX6_readTape_40 : decode cX6_readTape 40 = .ok (.aload_n 0, 1) := by decide +kernel
theorem dX6_readTape_41 : decode cX6_readTape 41 = .ok (.getfield 32, 3) := by decide +kernel
theorem dX6_readTape_44 : decode cX6_readTape 44 = .ok (.aload_n 0, 1) := by decide +kernel
theorem dX6_readTape_45 : decode cX6_readTape 45 = .ok (.getfield 26, 3) := by decide +kernel
theorem dX6_readTape_48 : decode cX6_readTape 48 = .ok (.iload_n 1, 1) := by decide +kernel
theorem dX6_readTape_49 : decode cX6_readTape 49 = .ok (.invokevirtual 74, 3) := by decide +kernel
theorem dX6_readTape_52 : decode cX6_readTape 52 = .ok (.ireturn, 1) := by decide +kernel
theorem dX6_adoptSpare_0 : decode cX6_adoptSpare 0 = .ok (.iload_n 1, 1) := by decide +kernel
theorem dX6_adoptSpare_1 : decode cX6_adoptSpare 1 = .ok (.ifCond .ne 10, 3) := by decide +kernel
theorem dX6_adoptSpare_4 : decode cX6_adoptSpare 4 = .ok (.aload_n 0, 1) := by decide +kernel
theorem dX6_adoptSpare_5 : decode cX6_adoptSpare 5 = .ok (.getfield 16, 3) := by decide +kernel
theorem dX6_adoptSpare_8 : decode cX6_adoptSpare 8 = .ok (.goto 19, 3) := by decide +kernel
theorem dX6_adoptSpare_11 : decode cX6_adoptSpare 11 = .ok (.iload_n 1, 1) := by decide +kernel
theorem dX6_adoptSpare_12 : decode cX6_adoptSpare 12 = .ok (.iconst 1, 1) := by decide +kernel
theorem dX6_adoptSpare_13 : decode cX6_adoptSpare 13 = .ok (.if_icmp .ne 10, 3) := by decide +kernel
theorem dX6_adoptSpare_16 : decode cX6_adoptSpare 16 = .ok (.aload_n 0, 1) := by decide +kernel
theorem dX6_adoptSpare_17 : decode cX6_adoptSpare 17 = .ok (.getfield 20, 3) := by decide +kernel
theorem dX6_adoptSpare_20 : decode cX6_adoptSpare 20 = .ok (.goto 7, 3) := by decide +kernel
theorem dX6_adoptSpare_23 : decode cX6_adoptSpare 23 = .ok (.aload_n 0, 1) := by decide +kernel
theorem dX6_adoptSpare_24 : decode cX6_adoptSpare 24 = .ok (.getfield 23, 3) := by decide +kernel
theorem dX6_adoptSpare_27 : decode cX6_adoptSpare 27 = .ok (.astore_n 2, 1) := by decide +kernel
theorem dX6_adoptSpare_28 : decode cX6_adoptSpare 28 = .ok (.aload_n 2, 1) := by decide +kernel
theorem dX6_adoptSpare_29 : decode cX6_adoptSpare 29 = .ok (.aload_n 0, 1) := by decide +kernel
theorem dX6_adoptSpare_30 : decode cX6_adoptSpare 30 = .ok (.getfield 26, 3) := by decide +kernel
theorem dX6_adoptSpare_33 : decode cX6_adoptSpare 33 = .ok (.invokevirtual 205, 3) := by decide +kernel
theorem dX6_adoptSpare_36 : decode cX6_adoptSpare 36 = .ok (.iload_n 1, 1) := by decide +kernel
theorem dX6_adoptSpare_37 : decode cX6_adoptSpare 37 = .ok (.ifCond .ne 13, 3) := by decide +kernel
theorem dX6_adoptSpare_40 : decode cX6_adoptSpare 40 = .ok (.aload_n 0, 1) := by decide +kernel
theorem dX6_adoptSpare_41 : decode cX6_adoptSpare 41 = .ok (.getfield 16, 3) := by decide +kernel
theorem dX6_adoptSpare_44 : decode cX6_adoptSpare 44 = .ok (.invokevirtual 208, 3) := by decide +kernel
theorem dX6_adoptSpare_47 : decode cX6_adoptSpare 47 = .ok (.goto 15, 3) := by decide +kernel
theorem dX6_adoptSpare_50 : decode cX6_adoptSpare 50 = .ok (.iload_n 1, 1) := by decide +kernel
theorem dX6_adoptSpare_51 : decode cX6_adoptSpare 51 = .ok (.iconst 1, 1) := by decide +kernel
theorem dX6_adoptSpare_52 : decode cX6_adoptSpare 52 = .ok (.if_icmp .ne 10, 3) := by decide +kernel
theorem dX6_adoptSpare_55 : decode cX6_adoptSpare 55 = .ok (.aload_n 0, 1) := by decide +kernel
theorem dX6_adoptSpare_56 : decode cX6_adoptSpare 56 = .ok (.getfield 41, 3) := by decide +kernel
theorem dX6_adoptSpare_59 : decode cX6_adoptSpare 59 = .ok (.invokevirtual 211, 3) := by decide +kernel
theorem dX6_adoptSpare_62 : decode cX6_adoptSpare 62 = .ok (.iload_n 1, 1) := by decide +kernel
theorem dX6_adoptSpare_63 : decode cX6_adoptSpare 63 = .ok (.iconst 2, 1) := by decide +kernel
theorem dX6_adoptSpare_64 : decode cX6_adoptSpare 64 = .ok (.if_icmp .eq 10, 3) := by decide +kernel
theorem dX6_adoptSpare_67 : decode cX6_adoptSpare 67 = .ok (.aload_n 0, 1) := by decide +kernel
theorem dX6_adoptSpare_68 : decode cX6_adoptSpare 68 = .ok (.getfield 41, 3) := by decide +kernel
theorem dX6_adoptSpare_71 : decode cX6_adoptSpare 71 = .ok (.invokevirtual 214, 3) := by decide +kernel
theorem dX6_adoptSpare_74 : decode cX6_adoptSpare 74 = .ok (.return_, 1) := by decide +kernel
theorem dX6_restoreWritten_0 : decode cX6_restoreWritten 0 = .ok (.aload_n 0, 1) := by decide +kernel
theorem dX6_restoreWritten_1 : decode cX6_restoreWritten 1 = .ok (.getfield 66, 3) := by decide +kernel
theorem dX6_restoreWritten_4 : decode cX6_restoreWritten 4 = .ok (.aload_n 0, 1) := by decide +kernel
theorem dX6_restoreWritten_5 : decode cX6_restoreWritten 5 = .ok (.getfield 26, 3) := by decide +kernel
theorem dX6_restoreWritten_8 : decode cX6_restoreWritten 8 = .ok (.invokevirtual 217, 3) := by decide +kernel
theorem dX6_restoreWritten_11 : decode cX6_restoreWritten 11 = .ok (.aload_n 0, 1) := by decide +kernel
theorem dX6_restoreWritten_12 : decode cX6_restoreWritten 12 = .ok (.getfield 32, 3) := by decide +kernel
theorem dX6_restoreWritten_15 : decode cX6_restoreWritten 15 = .ok (.aload_n 0, 1) := by decide +kernel
theorem dX6_restoreWritten_16 : decode cX6_restoreWritten 16 = .ok (.getfield 26, 3) := by decide +kernel
theorem dX6_restoreWritten_19 : decode cX6_restoreWritten 19 = .ok (.iconst 0, 1) := by decide +kernel
theorem dX6_restoreWritten_20 : decode cX6_restoreWritten 20 = .ok (.invokevirtual 74, 3) := by decide +kernel
theorem dX6_restoreWritten_23 : decode cX6_restoreWritten 23 = .ok (.pop, 1) := by decide +kernel
theorem dX6_restoreWritten_24 : decode cX6_restoreWritten 24 = .ok (.aload_n 0, 1) := by decide +kernel
theorem dX6_restoreWritten_25 : decode cX6_restoreWritten 25 = .ok (.iconst 0, 1) := by decide +kernel
theorem dX6_restoreWritten_26 : decode cX6_restoreWritten 26 = .ok (.invokevirtual 78, 3) := by decide +kernel
theorem dX6_restoreWritten_29 : decode cX6_restoreWritten 29 = .ok (.return_, 1) := by decide +kernel
theorem dX6_putOnce_0 : decode cX6_putOnce 0 = .ok (.aload_n 0, 1) := by decide +kernel
theorem dX6_putOnce_1 : decode cX6_putOnce 1 = .ok (.getfield 41, 3) := by decide +kernel
theorem dX6_putOnce_4 : decode cX6_putOnce 4 = .ok (.invokevirtual 157, 3) := by decide +kernel
theorem dX6_putOnce_7 : decode cX6_putOnce 7 = .ok (.aload_n 0, 1) := by decide +kernel
theorem dX6_putOnce_8 : decode cX6_putOnce 8 = .ok (.getfield 50, 3) := by decide +kernel
theorem dX6_putOnce_11 : decode cX6_putOnce 11 = .ok (.iload_n 1, 1) := by decide +kernel
theorem dX6_putOnce_12 : decode cX6_putOnce 12 = .ok (.invokevirtual 160, 3) := by decide +kernel
theorem dX6_putOnce_15 : decode cX6_putOnce 15 = .ok (.aload_n 0, 1) := by decide +kernel
theorem dX6_putOnce_16 : decode cX6_putOnce 16 = .ok (.getfield 50, 3) := by decide +kernel
theorem dX6_putOnce_19 : decode cX6_putOnce 19 = .ok (.getfield 163, 3) := by decide +kernel
theorem dX6_putOnce_22 : decode cX6_putOnce 22 = .ok (.ifCond .ne 5, 3) := by decide +kernel
theorem dX6_putOnce_25 : decode cX6_putOnce 25 = .ok (.iconst 0, 1) := by decide +kernel
theorem dX6_putOnce_26 : decode cX6_putOnce 26 = .ok (.ireturn, 1) := by decide +kernel
theorem dX6_putOnce_27 : decode cX6_putOnce 27 = .ok (.aload_n 0, 1) := by decide +kernel
theorem dX6_putOnce_28 : decode cX6_putOnce 28 = .ok (.getfield 59, 3) := by decide +kernel
theorem dX6_putOnce_31 : decode cX6_putOnce 31 = .ok (.aload_n 0, 1) := by decide +kernel
theorem dX6_putOnce_32 : decode cX6_putOnce 32 = .ok (.getfield 26, 3) := by decide +kernel
theorem dX6_putOnce_35 : decode cX6_putOnce 35 = .ok (.aload_n 0, 1) := by decide +kernel
theorem dX6_putOnce_36 : decode cX6_putOnce 36 = .ok (.getfield 50, 3) := by decide +kernel
theorem dX6_putOnce_39 : decode cX6_putOnce 39 = .ok (.invokevirtual 220, 3) := by decide +kernel
theorem dX6_putOnce_42 : decode cX6_putOnce 42 = .ok (.ifCond .eq 19, 3) := by decide +kernel
theorem dX6_putOnce_45 : decode cX6_putOnce 45 = .ok (.aload_n 0, 1) := by decide +kernel
theorem dX6_putOnce_46 : decode cX6_putOnce 46 = .ok (.getfield 32, 3) := by decide +kernel
theorem dX6_putOnce_49 : decode cX6_putOnce 49 = .ok (.aload_n 0, 1) := by decide +kernel
theorem dX6_putOnce_50 : decode cX6_putOnce 50 = .ok (.getfield 26, 3) := by decide +kernel
theorem dX6_putOnce_53 : decode cX6_putOnce 53 = .ok (.iconst 0, 1) := by decide +kernel
theorem dX6_putOnce_54 : decode cX6_putOnce 54 = .ok (.invokevirtual 74, 3) := by decide +kernel
theorem dX6_putOnce_57 : decode cX6_putOnce 57 = .ok (.iconst (-1), 1) := by decide +kernel
theorem dX6_putOnce_58 : decode cX6_putOnce 58 = .ok (.if_icmp .eq 6, 3) := by decide +kernel
theorem dX6_putOnce_61 : decode cX6_putOnce 61 = .ok (.bipush (-2), 2) := by decide +kernel
theorem dX6_putOnce_63 : decode cX6_putOnce 63 = .ok (.ireturn, 1) := by decide +kernel
theorem dX6_putOnce_64 : decode cX6_putOnce 64 = .ok (.aload_n 0, 1) := by decide +kernel
theorem dX6_putOnce_65 : decode cX6_putOnce 65 = .ok (.iconst 0, 1) := by decide +kernel
theorem dX6_putOnce_66 : decode cX6_putOnce 66 = .ok (.invokevirtual 78, 3) := by decide +kernel
theorem dX6_putOnce_69 : decode cX6_putOnce 69 = .ok (.aload_n 0, 1) := by decide +kernel
theorem dX6_putOnce_70 : decode cX6_putOnce 70 = .ok (.getfield 50, 3) := by decide +kernel
theorem dX6_putOnce_73 : decode cX6_putOnce 73 = .ok (.getfield 163, 3) := by decide +kernel
theorem dX6_putOnce_76 : decode cX6_putOnce 76 = .ok (.ireturn, 1) := by decide +kernel
theorem dX6_mayPut_0 : decode cX6_mayPut 0 = .ok (.iload_n 1, 1) := by decide +kernel
theorem dX6_mayPut_1 : decode cX6_mayPut 1 = .ok (.invokestatic 154, 3) := by decide +kernel
theorem dX6_mayPut_4 : decode cX6_mayPut 4 = .ok (.ifCond .ne 5, 3) := by decide +kernel
theorem dX6_mayPut_7 : decode cX6_mayPut 7 = .ok (.iconst 0, 1) := by decide +kernel
theorem dX6_mayPut_8 : decode cX6_mayPut 8 = .ok (.ireturn, 1) := by decide +kernel
theorem dX6_mayPut_9 : decode cX6_mayPut 9 = .ok (.iconst 0, 1) := by decide +kernel
theorem dX6_mayPut_10 : decode cX6_mayPut 10 = .ok (.istore_n 2, 1) := by decide +kernel
theorem dX6_mayPut_11 : decode cX6_mayPut 11 = .ok (.iload_n 2, 1) := by decide +kernel
theorem dX6_mayPut_12 : decode cX6_mayPut 12 = .ok (.bipush 26, 2) := by decide +kernel
theorem dX6_mayPut_14 : decode cX6_mayPut 14 = .ok (.if_icmp .ge 37, 3) := by decide +kernel
theorem dX6_mayPut_17 : decode cX6_mayPut 17 = .ok (.aload_n 0, 1) := by decide +kernel
theorem dX6_mayPut_18 : decode cX6_mayPut 18 = .ok (.getfield 23, 3) := by decide +kernel
theorem dX6_mayPut_21 : decode cX6_mayPut 21 = .ok (.iload_n 2, 1) := by decide +kernel
theorem dX6_mayPut_22 : decode cX6_mayPut 22 = .ok (.invokevirtual 224, 3) := by decide +kernel
theorem dX6_mayPut_25 : decode cX6_mayPut 25 = .ok (.istore_n 3, 1) := by decide +kernel
theorem dX6_mayPut_26 : decode cX6_mayPut 26 = .ok (.iload_n 3, 1) := by decide +kernel
theorem dX6_mayPut_27 : decode cX6_mayPut 27 = .ok (.iconst (-1), 1) := by decide +kernel
theorem dX6_mayPut_28 : decode cX6_mayPut 28 = .ok (.if_icmp .eq 17, 3) := by decide +kernel
theorem dX6_mayPut_31 : decode cX6_mayPut 31 = .ok (.iload_n 3, 1) := by decide +kernel
theorem dX6_mayPut_32 : decode cX6_mayPut 32 = .ok (.aload_n 0, 1) := by decide +kernel
theorem dX6_mayPut_33 : decode cX6_mayPut 33 = .ok (.getfield 20, 3) := by decide +kernel
theorem dX6_mayPut_36 : decode cX6_mayPut 36 = .ok (.iload_n 2, 1) := by decide +kernel
theorem dX6_mayPut_37 : decode cX6_mayPut 37 = .ok (.invokevirtual 224, 3) := by decide +kernel
theorem dX6_mayPut_40 : decode cX6_mayPut 40 = .ok (.if_icmp .eq 5, 3) := by decide +kernel
theorem dX6_mayPut_43 : decode cX6_mayPut 43 = .ok (.iconst 0, 1) := by decide +kernel
theorem dX6_mayPut_44 : decode cX6_mayPut 44 = .ok (.ireturn, 1) := by decide +kernel
theorem dX6_mayPut_45 : decode cX6_mayPut 45 = .ok (.iinc 2 1, 3) := by decide +kernel
theorem dX6_mayPut_48 : decode cX6_mayPut 48 = .ok (.goto (-37), 3) := by decide +kernel
theorem dX6_mayPut_51 : decode cX6_mayPut 51 = .ok (.iconst 1, 1) := by decide +kernel
theorem dX6_mayPut_52 : decode cX6_mayPut 52 = .ok (.ireturn, 1) := by decide +kernel
theorem dX6_isBound_0 : decode cX6_isBound 0 = .ok (.aload_n 0, 1) := by decide +kernel
theorem dX6_isBound_1 : decode cX6_isBound 1 = .ok (.iload_n 1, 1) := by decide +kernel
theorem dX6_isBound_2 : decode cX6_isBound 2 = .ok (.invokevirtual 115, 3) := by decide +kernel
theorem dX6_isBound_5 : decode cX6_isBound 5 = .ok (.ifCond .eq 37, 3) := by decide +kernel
theorem dX6_isBound_8 : decode cX6_isBound 8 = .ok (.iload_n 2, 1) := by decide +kernel
theorem dX6_isBound_9 : decode cX6_isBound 9 = .ok (.invokestatic 100, 3) := by decide +kernel
theorem dX6_isBound_12 : decode cX6_isBound 12 = .ok (.ifCond .eq 30, 3) := by decide +kernel
theorem dX6_isBound_15 : decode cX6_isBound 15 = .ok (.aload_n 0, 1) := by decide +kernel
theorem dX6_isBound_16 : decode cX6_isBound 16 = .ok (.getfield 20, 3) := by decide +kernel
theorem dX6_isBound_19 : decode cX6_isBound 19 = .ok (.iload_n 2, 1) := by decide +kernel
theorem dX6_isBound_20 : decode cX6_isBound 20 = .ok (.invokevirtual 224, 3) := by decide +kernel
theorem dX6_isBound_23 : decode cX6_isBound 23 = .ok (.iconst (-1), 1) := by decide +kernel
theorem dX6_isBound_24 : decode cX6_isBound 24 = .ok (.if_icmp .eq 18, 3) := by decide +kernel
theorem dX6_isBound_27 : decode cX6_isBound 27 = .ok (.aload_n 0, 1) := by decide +kernel
theorem dX6_isBound_28 : decode cX6_isBound 28 = .ok (.getfield 41, 3) := by decide +kernel
theorem dX6_isBound_31 : decode cX6_isBound 31 = .ok (.iload_n 1, 1) := by decide +kernel
theorem dX6_isBound_32 : decode cX6_isBound 32 = .ok (.invokevirtual 227, 3) := by decide +kernel
theorem dX6_isBound_35 : decode cX6_isBound 35 = .ok (.ifCond .eq 7, 3) := by decide +kernel
theorem dX6_isBound_38 : decode cX6_isBound 38 = .ok (.iconst 1, 1) := by decide +kernel
theorem dX6_isBound_39 : decode cX6_isBound 39 = .ok (.goto 4, 3) := by decide +kernel
theorem dX6_isBound_42 : decode cX6_isBound 42 = .ok (.iconst 0, 1) := by decide +kernel
theorem dX6_isBound_43 : decode cX6_isBound 43 = .ok (.ireturn, 1) := by decide +kernel
theorem dX6_isNode_0 : decode cX6_isNode 0 = .ok (.iload_n 1, 1) := by decide +kernel
theorem dX6_isNode_1 : decode cX6_isNode 1 = .ok (.ifCond .lt 18, 3) := by decide +kernel
theorem dX6_isNode_4 : decode cX6_isNode 4 = .ok (.iload_n 1, 1) := by decide +kernel
theorem dX6_isNode_5 : decode cX6_isNode 5 = .ok (.aload_n 0, 1) := by decide +kernel
theorem dX6_isNode_6 : decode cX6_isNode 6 = .ok (.getfield 16, 3) := by decide +kernel
theorem dX6_isNode_9 : decode cX6_isNode 9 = .ok (.getfield 112, 3) := by decide +kernel
theorem dX6_isNode_12 : decode cX6_isNode 12 = .ok (.if_icmp .ge 7, 3) := by decide +kernel
theorem dX6_isNode_15 : decode cX6_isNode 15 = .ok (.iconst 1, 1) := by decide +kernel
theorem dX6_isNode_16 : decode cX6_isNode 16 = .ok (.goto 4, 3) := by decide +kernel
theorem dX6_isNode_19 : decode cX6_isNode 19 = .ok (.iconst 0, 1) := by decide +kernel
theorem dX6_isNode_20 : decode cX6_isNode 20 = .ok (.ireturn, 1) := by decide +kernel
theorem dX6_isLetter_0 : decode cX6_isLetter 0 = .ok (.iload_n 0, 1) := by decide +kernel
theorem dX6_isLetter_1 : decode cX6_isLetter 1 = .ok (.ifCond .lt 13, 3) := by decide +kernel
theorem dX6_isLetter_4 : decode cX6_isLetter 4 = .ok (.iload_n 0, 1) := by decide +kernel
theorem dX6_isLetter_5 : decode cX6_isLetter 5 = .ok (.bipush 26, 2) := by decide +kernel
theorem dX6_isLetter_7 : decode cX6_isLetter 7 = .ok (.if_icmp .ge 7, 3) := by decide +kernel
theorem dX6_isLetter_10 : decode cX6_isLetter 10 = .ok (.iconst 1, 1) := by decide +kernel
theorem dX6_isLetter_11 : decode cX6_isLetter 11 = .ok (.goto 4, 3) := by decide +kernel
theorem dX6_isLetter_14 : decode cX6_isLetter 14 = .ok (.iconst 0, 1) := by decide +kernel
theorem dX6_isLetter_15 : decode cX6_isLetter 15 = .ok (.ireturn, 1) := by decide +kernel
theorem dX6_isRule_0 : decode cX6_isRule 0 = .ok (.iload_n 0, 1) := by decide +kernel
theorem dX6_isRule_1 : decode cX6_isRule 1 = .ok (.ifCond .lt 12, 3) := by decide +kernel
theorem dX6_isRule_4 : decode cX6_isRule 4 = .ok (.iload_n 0, 1) := by decide +kernel
theorem dX6_isRule_5 : decode cX6_isRule 5 = .ok (.iconst 2, 1) := by decide +kernel
theorem dX6_isRule_6 : decode cX6_isRule 6 = .ok (.if_icmp .gt 7, 3) := by decide +kernel
theorem dX6_isRule_9 : decode cX6_isRule 9 = .ok (.iconst 1, 1) := by decide +kernel
theorem dX6_isRule_10 : decode cX6_isRule 10 = .ok (.goto 4, 3) := by decide +kernel
theorem dX6_isRule_13 : decode cX6_isRule 13 = .ok (.iconst 0, 1) := by decide +kernel
theorem dX6_isRule_14 : decode cX6_isRule 14 = .ok (.ireturn, 1) := by decide +kernel
theorem dX6_isSmall_0 : decode cX6_isSmall 0 = .ok (.iload_n 0, 1) := by decide +kernel
theorem dX6_isSmall_1 : decode cX6_isSmall 1 = .ok (.bipush 97, 2) := by decide +kernel
theorem dX6_isSmall_3 : decode cX6_isSmall 3 = .ok (.if_icmp .lt 13, 3) := by decide +kernel
theorem dX6_isSmall_6 : decode cX6_isSmall 6 = .ok (.iload_n 0, 1) := by decide +kernel
theorem dX6_isSmall_7 : decode cX6_isSmall 7 = .ok (.bipush 122, 2) := by decide +kernel
theorem dX6_isSmall_9 : decode cX6_isSmall 9 = .ok (.if_icmp .gt 7, 3) := by decide +kernel
theorem dX6_isSmall_12 : decode cX6_isSmall 12 = .ok (.iconst 1, 1) := by decide +kernel
theorem dX6_isSmall_13 : decode cX6_isSmall 13 = .ok (.goto 4, 3) := by decide +kernel
theorem dX6_isSmall_16 : decode cX6_isSmall 16 = .ok (.iconst 0, 1) := by decide +kernel
theorem dX6_isSmall_17 : decode cX6_isSmall 17 = .ok (.ireturn, 1) := by decide +kernel
theorem dX6_isAtomByte_0 : decode cX6_isAtomByte 0 = .ok (.iload_n 0, 1) := by decide +kernel
theorem dX6_isAtomByte_1 : decode cX6_isAtomByte 1 = .ok (.bipush 97, 2) := by decide +kernel
theorem dX6_isAtomByte_3 : decode cX6_isAtomByte 3 = .ok (.if_icmp .lt 9, 3) := by decide +kernel
theorem dX6_isAtomByte_6 : decode cX6_isAtomByte 6 = .ok (.iload_n 0, 1) := by decide +kernel
theorem dX6_isAtomByte_7 : decode cX6_isAtomByte 7 = .ok (.bipush 122, 2) := by decide +kernel
theorem dX6_isAtomByte_9 : decode cX6_isAtomByte 9 = .ok (.if_icmp .le 15, 3) := by decide +kernel
theorem dX6_isAtomByte_12 : decode cX6_isAtomByte 12 = .ok (.iload_n 0, 1) := by decide +kernel
theorem dX6_isAtomByte_13 : decode cX6_isAtomByte 13 = .ok (.bipush 48, 2) := by decide +kernel
theorem dX6_isAtomByte_15 : decode cX6_isAtomByte 15 = .ok (.if_icmp .lt 13, 3) := by decide +kernel
theorem dX6_isAtomByte_18 : decode cX6_isAtomByte 18 = .ok (.iload_n 0, 1) := by decide +kernel
theorem dX6_isAtomByte_19 : decode cX6_isAtomByte 19 = .ok (.bipush 57, 2) := by decide +kernel
theorem dX6_isAtomByte_21 : decode cX6_isAtomByte 21 = .ok (.if_icmp .gt 7, 3) := by decide +kernel
theorem dX6_isAtomByte_24 : decode cX6_isAtomByte 24 = .ok (.iconst 1, 1) := by decide +kernel
theorem dX6_isAtomByte_25 : decode cX6_isAtomByte 25 = .ok (.goto 4, 3) := by decide +kernel
theorem dX6_isAtomByte_28 : decode cX6_isAtomByte 28 = .ok (.iconst 0, 1) := by decide +kernel
theorem dX6_isAtomByte_29 : decode cX6_isAtomByte 29 = .ok (.ireturn, 1) := by decide +kernel
theorem dX6_isBlank_0 : decode cX6_isBlank 0 = .ok (.iload_n 0, 1) := by decide +kernel
theorem dX6_isBlank_1 : decode cX6_isBlank 1 = .ok (.bipush 32, 2) := by decide +kernel
theorem dX6_isBlank_3 : decode cX6_isBlank 3 = .ok (.if_icmp .eq 9, 3) := by decide +kernel
theorem dX6_isBlank_6 : decode cX6_isBlank 6 = .ok (.iload_n 0, 1) := by decide +kernel
theorem dX6_isBlank_7 : decode cX6_isBlank 7 = .ok (.bipush 10, 2) := by decide +kernel
theorem dX6_isBlank_9 : decode cX6_isBlank 9 = .ok (.if_icmp .ne 7, 3) := by decide +kernel
theorem dX6_isBlank_12 : decode cX6_isBlank 12 = .ok (.iconst 1, 1) := by decide +kernel
theorem dX6_isBlank_13 : decode cX6_isBlank 13 = .ok (.goto 4, 3) := by decide +kernel
theorem dX6_isBlank_16 : decode cX6_isBlank 16 = .ok (.iconst 0, 1) := by decide +kernel
theorem dX6_isBlank_17 : decode cX6_isBlank 17 = .ok (.ireturn, 1) := by decide +kernel
theorem dX7_init_0 : decode cX7_init 0 = .ok (.aload_n 0, 1) := by decide +kernel
theorem dX7_init_1 : decode cX7_init 1 = .ok (.invokespecial 3, 3) := by decide +kernel
theorem dX7_init_4 : decode cX7_init 4 = .ok (.aload_n 0, 1) := by decide +kernel
theorem dX7_init_5 : decode cX7_init 5 = .ok (.sipush 240, 3) := by decide +kernel
theorem dX7_init_8 : decode cX7_init 8 = .ok (.newarray .byte, 2) := by decide +kernel
theorem dX7_init_10 : decode cX7_init 10 = .ok (.putfield 9, 3) := by decide +kernel
theorem dX7_init_13 : decode cX7_init 13 = .ok (.aload_n 0, 1) := by decide +kernel
theorem dX7_init_14 : decode cX7_init 14 = .ok (.sipush 240, 3) := by decide +kernel
theorem dX7_init_17 : decode cX7_init 17 = .ok (.newarray .int, 2) := by decide +kernel
theorem dX7_init_19 : decode cX7_init 19 = .ok (.putfield 15, 3) := by decide +kernel
theorem dX7_init_22 : decode cX7_init 22 = .ok (.aload_n 0, 1) := by decide +kernel
theorem dX7_init_23 : decode cX7_init 23 = .ok (.sipush 240, 3) := by decide +kernel
theorem dX7_init_26 : decode cX7_init 26 = .ok (.newarray .int, 2) := by decide +kernel
theorem dX7_init_28 : decode cX7_init 28 = .ok (.putfield 19, 3) := by decide +kernel
theorem dX7_init_31 : decode cX7_init 31 = .ok (.aload_n 0, 1) := by decide +kernel
theorem dX7_init_32 : decode cX7_init 32 = .ok (.sipush 240, 3) := by decide +kernel
theorem dX7_init_35 : decode cX7_init 35 = .ok (.newarray .int, 2) := by decide +kernel
theorem dX7_init_37 : decode cX7_init 37 = .ok (.putfield 22, 3) := by decide +kernel
theorem dX7_init_40 : decode cX7_init 40 = .ok (.aload_n 0, 1) := by decide +kernel
theorem dX7_init_41 : decode cX7_init 41 = .ok (.sipush 240, 3) := by decide +kernel
theorem dX7_init_44 : decode cX7_init 44 = .ok (.newarray .int, 2) := by decide +kernel
theorem dX7_init_46 : decode cX7_init 46 = .ok (.putfield 25, 3) := by decide +kernel
theorem dX7_init_49 : decode cX7_init 49 = .ok (.aload_n 0, 1) := by decide +kernel
theorem dX7_init_50 : decode cX7_init 50 = .ok (.sipush 240, 3) := by decide +kernel
theorem dX7_init_53 : decode cX7_init 53 = .ok (.newarray .int, 2) := by decide +kernel
theorem dX7_init_55 : decode cX7_init 55 = .ok (.putfield 28, 3) := by decide +kernel
theorem dX7_init_58 : decode cX7_init 58 = .ok (.aload_n 0, 1) := by decide +kernel
theorem dX7_init_59 : decode cX7_init 59 = .ok (.sipush 240, 3) := by decide +kernel
theorem dX7_init_62 : decode cX7_init 62 = .ok (.newarray .int, 2) := by decide +kernel
theorem dX7_init_64 : decode cX7_init 64 = .ok (.putfield 31, 3) := by decide +kernel
theorem dX7_init_67 : decode cX7_init 67 = .ok (.aload_n 0, 1) := by decide +kernel
theorem dX7_init_68 : decode cX7_init 68 = .ok (.sipush 240, 3) := by decide +kernel
theorem dX7_init_71 : decode cX7_init 71 = .ok (.newarray .int, 2) := by decide +kernel
theorem dX7_init_73 : decode cX7_init 73 = .ok (.putfield 34, 3) := by decide +kernel
theorem dX7_init_76 : decode cX7_init 76 = .ok (.aload_n 0, 1) := by decide +kernel
theorem dX7_init_77 : decode cX7_init 77 = .ok (.sipush 240, 3) := by decide +kernel
theorem dX7_init_80 : decode cX7_init 80 = .ok (.newarray .boolean, 2) := by decide +kernel
theorem dX7_init_82 : decode cX7_init 82 = .ok (.putfield 37, 3) := by decide +kernel
theorem dX7_init_85 : decode cX7_init 85 = .ok (.return_, 1) := by decide +kernel
theorem dX7_term_0 : decode cX7_term 0 = .ok (.iload_n 2, 1) := by decide +kernel
theorem dX7_term_1 : decode cX7_term 1 = .ok (.istore_n 3, 1) := by decide +kernel
theorem dX7_term_2 : decode cX7_term 2 = .ok (.iload_n 1, 1) := by decide +kernel
theorem dX7_term_3 : decode cX7_term 3 = .ok (.iconst 1, 1) := by decide +kernel
theorem dX7_term_4 : decode cX7_term 4 = .ok (.iadd, 1) := by decide +kernel
theorem dX7_term_5 : decode cX7_term 5 = .ok (.istore 4, 2) := by decide +kernel
theorem dX7_term_7 : decode cX7_term 7 = .ok (.aload_n 0, 1) := by decide +kernel
theorem dX7_term_8 : decode cX7_term 8 = .ok (.getfield 31, 3) := by decide +kernel
theorem dX7_term_11 : decode cX7_term 11 = .ok (.iload 4, 2) := by decide +kernel
theorem dX7_term_13 : decode cX7_term 13 = .ok (.iaload, 1) := by decide +kernel
theorem dX7_term_14 : decode cX7_term 14 = .ok (.iload_n 1, 1) := by decide +kernel
theorem dX7_term_15 : decode cX7_term 15 = .ok (.if_icmp .ne 7, 3) := by decide +kernel
theorem dX7_term_18 : decode cX7_term 18 = .ok (.iload_n 3, 1) := by decide +kernel
theorem dX7_term_19 : decode cX7_term 19 = .ok (.ifCond .le 23, 3) := by decide +kernel
theorem dX7_term_22 : decode cX7_term 22 = .ok (.aload_n 0, 1) := by decide +kernel
theorem dX7_term_23 : decode cX7_term 23 = .ok (.getfield 31, 3) := by decide +kernel
theorem dX7_term_26 : decode cX7_term 26 = .ok (.iload 4, 2) := by decide +kernel
theorem dX7_term_28 : decode cX7_term 28 = .ok (.iaload, 1) := by decide +kernel
theorem dX7_term_29 : decode cX7_term 29 = .ok (.iload_n 1, 1) := by decide +kernel
theorem dX7_term_30 : decode cX7_term 30 = .ok (.if_icmp .ne 6, 3) := by decide +kernel
theorem dX7_term_33 : decode cX7_term 33 = .ok (.iinc 3 (-1), 3) := by decide +kernel
theorem dX7_term_36 : decode cX7_term 36 = .ok (.iinc 4 1, 3) := by decide +kernel
theorem dX7_term_39 : decode cX7_term 39 = .ok (.goto (-32), 3) := by decide +kernel
theorem dX7_term_42 : decode cX7_term 42 = .ok (.iload 4, 2) := by decide +kernel
theorem dX7_term_44 : decode cX7_term 44 = .ok (.ireturn, 1) := by decide +kernel
theorem dX8_init_0 : decode cX8_init 0 = .ok (.aload_n 0, 1) := by decide +kernel
theorem dX8_init_1 : decode cX8_init 1 = .ok (.invokespecial 1, 3) := by decide +kernel
theorem dX8_init_4 : decode cX8_init 4 = .ok (.aload_n 0, 1) := by decide +kernel
theorem dX8_init_5 : decode cX8_init 5 = .ok (.sipush 240, 3) := by decide +kernel
theorem dX8_init_8 : decode cX8_init 8 = .ok (.newarray .byte, 2) := by decide +kernel
theorem dX8_init_10 : decode cX8_init 10 = .ok (.putfield 9, 3) := by decide +kernel
theorem dX8_init_13 : decode cX8_init 13 = .ok (.aload_n 0, 1) := by decide +kernel
theorem dX8_init_14 : decode cX8_init 14 = .ok (.new 13, 3) := by decide +kernel
theorem dX8_init_17 : decode cX8_init 17 = .ok (.dup, 1) := by decide +kernel
theorem dX8_init_18 : decode cX8_init 18 = .ok (.invokespecial 15, 3) := by decide +kernel
theorem dX8_init_21 : decode cX8_init 21 = .ok (.putfield 16, 3) := by decide +kernel
theorem dX8_init_24 : decode cX8_init 24 = .ok (.aload_n 0, 1) := by decide +kernel
theorem dX8_init_25 : decode cX8_init 25 = .ok (.new 13, 3) := by decide +kernel
theorem dX8_init_28 : decode cX8_init 28 = .ok (.dup, 1) := by decide +kernel
theorem dX8_init_29 : decode cX8_init 29 = .ok (.invokespecial 15, 3) := by decide +kernel
theorem dX8_init_32 : decode cX8_init 32 = .ok (.putfield 20, 3) := by decide +kernel
theorem dX8_init_35 : decode cX8_init 35 = .ok (.aload_n 0, 1) := by decide +kernel
theorem dX8_init_36 : decode cX8_init 36 = .ok (.new 13, 3) := by decide +kernel
theorem dX8_init_39 : decode cX8_init 39 = .ok (.dup, 1) := by decide +kernel
theorem dX8_init_40 : decode cX8_init 40 = .ok (.invokespecial 15, 3) := by decide +kernel
theorem dX8_init_43 : decode cX8_init 43 = .ok (.putfield 23, 3) := by decide +kernel
theorem dX8_init_46 : decode cX8_init 46 = .ok (.aload_n 0, 1) := by decide +kernel
theorem dX8_init_47 : decode cX8_init 47 = .ok (.new 13, 3) := by decide +kernel
theorem dX8_init_50 : decode cX8_init 50 = .ok (.dup, 1) := by decide +kernel
theorem dX8_init_51 : decode cX8_init 51 = .ok (.invokespecial 15, 3) := by decide +kernel
theorem dX8_init_54 : decode cX8_init 54 = .ok (.putfield 26, 3) := by decide +kernel
theorem dX8_init_57 : decode cX8_init 57 = .ok (.aload_n 0, 1) := by decide +kernel
theorem dX8_init_58 : decode cX8_init 58 = .ok (.new 13, 3) := by decide +kernel
theorem dX8_init_61 : decode cX8_init 61 = .ok (.dup, 1) := by decide +kernel
theorem dX8_init_62 : decode cX8_init 62 = .ok (.invokespecial 15, 3) := by decide +kernel
theorem dX8_init_65 : decode cX8_init 65 = .ok (.putfield 29, 3) := by decide +kernel
theorem dX8_init_68 : decode cX8_init 68 = .ok (.aload_n 0, 1) := by decide +kernel
theorem dX8_init_69 : decode cX8_init 69 = .ok (.sipush 2400, 3) := by decide +kernel
theorem dX8_init_72 : decode cX8_init 72 = .ok (.newarray .byte, 2) := by decide +kernel
theorem dX8_init_74 : decode cX8_init 74 = .ok (.putfield 32, 3) := by decide +kernel
theorem dX8_init_77 : decode cX8_init 77 = .ok (.aload_n 0, 1) := by decide +kernel
theorem dX8_init_78 : decode cX8_init 78 = .ok (.bipush 10, 2) := by decide +kernel
theorem dX8_init_80 : decode cX8_init 80 = .ok (.newarray .int, 2) := by decide +kernel
theorem dX8_init_82 : decode cX8_init 82 = .ok (.putfield 35, 3) := by decide +kernel
theorem dX8_init_85 : decode cX8_init 85 = .ok (.aload_n 0, 1) := by decide +kernel
theorem dX8_init_86 : decode cX8_init 86 = .ok (.sipush 676, 3) := by decide +kernel
theorem dX8_init_89 : decode cX8_init 89 = .ok (.newarray .boolean, 2) := by decide +kernel
theorem dX8_init_91 : decode cX8_init 91 = .ok (.putfield 39, 3) := by decide +kernel
theorem dX8_init_94 : decode cX8_init 94 = .ok (.aload_n 0, 1) := by decide +kernel
theorem dX8_init_95 : decode cX8_init 95 = .ok (.bipush 26, 2) := by decide +kernel
theorem dX8_init_97 : decode cX8_init 97 = .ok (.newarray .int, 2) := by decide +kernel
theorem dX8_init_99 : decode cX8_init 99 = .ok (.putfield 43, 3) := by decide +kernel
theorem dX8_init_102 : decode cX8_init 102 = .ok (.aload_n 0, 1) := by decide +kernel
theorem dX8_init_103 : decode cX8_init 103 = .ok (.sipush 4000, 3) := by decide +kernel
theorem dX8_init_106 : decode cX8_init 106 = .ok (.newarray .int, 2) := by decide +kernel
theorem dX8_init_108 : decode cX8_init 108 = .ok (.putfield 46, 3) := by decide +kernel
theorem dX8_init_111 : decode cX8_init 111 = .ok (.aload_n 0, 1) := by decide +kernel
theorem dX8_init_112 : decode cX8_init 112 = .ok (.sipush 4000, 3) := by decide +kernel
theorem dX8_init_115 : decode cX8_init 115 = .ok (.newarray .int, 2) := by decide +kernel
theorem dX8_init_117 : decode cX8_init 117 = .ok (.putfield 49, 3) := by decide +kernel
theorem dX8_init_120 : decode cX8_init 120 = .ok (.aload_n 0, 1) := by decide +kernel
theorem dX8_init_121 : decode cX8_init 121 = .ok (.sipush 4000, 3) := by decide +kernel
theorem dX8_init_124 : decode cX8_init 124 = .ok (.newarray .int, 2) := by decide +kernel
theorem dX8_init_126 : decode cX8_init 126 = .ok (.putfield 52, 3) := by decide +kernel
theorem dX8_init_129 : decode cX8_init 129 = .ok (.aload_n 0, 1) := by decide +kernel
theorem dX8_init_130 : decode cX8_init 130 = .ok (.sipush 4000, 3) := by decide +kernel
theorem dX8_init_133 : decode cX8_init 133 = .ok (.newarray .int, 2) := by decide +kernel
theorem dX8_init_135 : decode cX8_init 135 = .ok (.putfield 55, 3) := by decide +kernel
theorem dX8_init_138 : decode cX8_init 138 = .ok (.aload_n 0, 1) := by decide +kernel
theorem dX8_init_139 : decode cX8_init 139 = .ok (.sipush 4000, 3) := by decide +kernel
theorem dX8_init_142 : decode cX8_init 142 = .ok (.newarray .int, 2) := by decide +kernel
theorem dX8_init_144 : decode cX8_init 144 = .ok (.putfield 58, 3) := by decide +kernel
theorem dX8_init_147 : decode cX8_init 147 = .ok (.aload_n 0, 1) := by decide +kernel
theorem dX8_init_148 : decode cX8_init 148 = .ok (.bipush 26, 2) := by decide +kernel
theorem dX8_init_150 : decode cX8_init 150 = .ok (.newarray .int, 2) := by decide +kernel
theorem dX8_init_152 : decode cX8_init 152 = .ok (.putfield 61, 3) := by decide +kernel
theorem dX8_init_155 : decode cX8_init 155 = .ok (.aload_n 0, 1) := by decide +kernel
theorem dX8_init_156 : decode cX8_init 156 = .ok (.bipush 26, 2) := by decide +kernel
theorem dX8_init_158 : decode cX8_init 158 = .ok (.newarray .int, 2) := by decide +kernel
theorem dX8_init_160 : decode cX8_init 160 = .ok (.putfield 64, 3) := by decide +kernel
theorem dX8_init_163 : decode cX8_init 163 = .ok (.aload_n 0, 1) := by decide +kernel
theorem dX8_init_164 : decode cX8_init 164 = .ok (.bipush 26, 2) := by decide +kernel
theorem dX8_init_166 : decode cX8_init 166 = .ok (.newarray .int, 2) := by decide +kernel
theorem dX8_init_168 : decode cX8_init 168 = .ok (.putfield 67, 3) := by decide +kernel
theorem dX8_init_171 : decode cX8_init 171 = .ok (.aload_n 0, 1) := by decide +kernel
theorem dX8_init_172 : decode cX8_init 172 = .ok (.bipush 26, 2) := by decide +kernel
theorem dX8_init_174 : decode cX8_init 174 = .ok (.newarray .int, 2) := by decide +kernel
theorem dX8_init_176 : decode cX8_init 176 = .ok (.putfield 70, 3) := by decide +kernel
theorem dX8_init_179 : decode cX8_init 179 = .ok (.aload_n 0, 1) := by decide +kernel
theorem dX8_init_180 : decode cX8_init 180 = .ok (.bipush 26, 2) := by decide +kernel
theorem dX8_init_182 : decode cX8_init 182 = .ok (.newarray .int, 2) := by decide +kernel
theorem dX8_init_184 : decode cX8_init 184 = .ok (.putfield 73, 3) := by decide +kernel
theorem dX8_init_187 : decode cX8_init 187 = .ok (.aload_n 0, 1) := by decide +kernel
theorem dX8_init_188 : decode cX8_init 188 = .ok (.sipush 240, 3) := by decide +kernel
theorem dX8_init_191 : decode cX8_init 191 = .ok (.newarray .boolean, 2) := by decide +kernel
theorem dX8_init_193 : decode cX8_init 193 = .ok (.putfield 76, 3) := by decide +kernel
theorem dX8_init_196 : decode cX8_init 196 = .ok (.aload_n 0, 1) := by decide +kernel
theorem dX8_init_197 : decode cX8_init 197 = .ok (.sipush 240, 3) := by decide +kernel
theorem dX8_init_200 : decode cX8_init 200 = .ok (.newarray .boolean, 2) := by decide +kernel
theorem dX8_init_202 : decode cX8_init 202 = .ok (.putfield 79, 3) := by decide +kernel
theorem dX8_init_205 : decode cX8_init 205 = .ok (.aload_n 0, 1) := by decide +kernel
theorem dX8_init_206 : decode cX8_init 206 = .ok (.sipush 240, 3) := by decide +kernel
theorem dX8_init_209 : decode cX8_init 209 = .ok (.newarray .int, 2) := by decide +kernel
theorem dX8_init_211 : decode cX8_init 211 = .ok (.putfield 82, 3) := by decide +kernel
theorem dX8_init_214 : decode cX8_init 214 = .ok (.aload_n 0, 1) := by decide +kernel
theorem dX8_init_215 : decode cX8_init 215 = .ok (.ldc 85, 2) := by decide +kernel
theorem dX8_init_217 : decode cX8_init 217 = .ok (.newarray .byte, 2) := by decide +kernel
theorem dX8_init_219 : decode cX8_init 219 = .ok (.putfield 86, 3) := by decide +kernel
theorem dX8_init_222 : decode cX8_init 222 = .ok (.aload_n 0, 1) := by decide +kernel
theorem dX8_init_223 : decode cX8_init 223 = .ok (.sipush 240, 3) := by decide +kernel
theorem dX8_init_226 : decode cX8_init 226 = .ok (.newarray .boolean, 2) := by decide +kernel
theorem dX8_init_228 : decode cX8_init 228 = .ok (.putfield 89, 3) := by decide +kernel
theorem dX8_init_231 : decode cX8_init 231 = .ok (.aload_n 0, 1) := by decide +kernel
theorem dX8_init_232 : decode cX8_init 232 = .ok (.sipush 240, 3) := by decide +kernel
theorem dX8_init_235 : decode cX8_init 235 = .ok (.newarray .boolean, 2) := by decide +kernel
theorem dX8_init_237 : decode cX8_init 237 = .ok (.putfield 92, 3) := by decide +kernel
theorem dX8_init_240 : decode cX8_init 240 = .ok (.iconst 0, 1) := by decide +kernel
theorem dX8_init_241 : decode cX8_init 241 = .ok (.istore_n 1, 1) := by decide +kernel
theorem dX8_init_242 : decode cX8_init 242 = .ok (.iload_n 1, 1) := by decide +kernel
theorem dX8_init_243 : decode cX8_init 243 = .ok (.iconst 3, 1) := by decide +kernel
theorem dX8_init_244 : decode cX8_init 244 = .ok (.if_icmp .ge 28, 3) := by decide +kernel
theorem dX8_init_247 : decode cX8_init 247 = .ok (.aload_n 0, 1) := by decide +kernel
theorem dX8_init_248 : decode cX8_init 248 = .ok (.getfield 9, 3) := by decide +kernel
theorem dX8_init_251 : decode cX8_init 251 = .ok (.iconst 0, 1) := by decide +kernel
theorem dX8_init_252 : decode cX8_init 252 = .ok (.bipush 97, 2) := by decide +kernel
theorem dX8_init_254 : decode cX8_init 254 = .ok (.bastore, 1) := by decide +kernel
theorem dX8_init_255 : decode cX8_init 255 = .ok (.aload_n 0, 1) := by decide +kernel
theorem dX8_init_256 : decode cX8_init 256 = .ok (.iconst 1, 1) := by decide +kernel
theorem dX8_init_257 : decode cX8_init 257 = .ok (.putfield 95, 3) := by decide +kernel
theorem dX8_init_260 : decode cX8_init 260 = .ok (.aload_n 0, 1) := by decide +kernel
theorem dX8_init_261 : decode cX8_init 261 = .ok (.iload_n 1, 1) := by decide +kernel
theorem dX8_init_262 : decode cX8_init 262 = .ok (.invokevirtual 99, 3) := by decide +kernel
theorem dX8_init_265 : decode cX8_init 265 = .ok (.istore_n 2, 1) := by decide +kernel
theorem dX8_init_266 : decode cX8_init 266 = .ok (.iinc 1 1, 3) := by decide +kernel
theorem dX8_init_269 : decode cX8_init 269 = .ok (.goto (-27), 3) := by decide +kernel
theorem dX8_init_272 : decode cX8_init 272 = .ok (.return_, 1) := by decide +kernel
theorem dX8_thrown_0 : decode cX8_thrown 0 = .ok (.aload_n 0, 1) := by decide +kernel
theorem dX8_thrown_1 : decode cX8_thrown 1 = .ok (.getfield 103, 3) := by decide +kernel
theorem dX8_thrown_4 : decode cX8_thrown 4 = .ok (.ireturn, 1) := by decide +kernel
theorem dX8_isIn_0 : decode cX8_isIn 0 = .ok (.iload_n 0, 1) := by decide +kernel
theorem dX8_isIn_1 : decode cX8_isIn 1 = .ok (.iload_n 1, 1) := by decide +kernel
theorem dX8_isIn_2 : decode cX8_isIn 2 = .ok (.if_icmp .lt 12, 3) := by decide +kernel
theorem dX8_isIn_5 : decode cX8_isIn 5 = .ok (.iload_n 0, 1) := by decide +kernel
theorem dX8_isIn_6 : decode cX8_isIn 6 = .ok (.iload_n 2, 1) := by decide +kernel
theorem dX8_isIn_7 : decode cX8_isIn 7 = .ok (.if_icmp .gt 7, 3) := by decide +kernel
theorem dX8_isIn_10 : decode cX8_isIn 10 = .ok (.iconst 1, 1) := by decide +kernel
theorem dX8_isIn_11 : decode cX8_isIn 11 = .ok (.goto 4, 3) := by decide +kernel
theorem dX8_isIn_14 : decode cX8_isIn 14 = .ok (.iconst 0, 1) := by decide +kernel
theorem dX8_isIn_15 : decode cX8_isIn 15 = .ok (.ireturn, 1) := by decide +kernel
theorem dX8_look_0 : decode cX8_look 0 = .ok (.aload_n 0, 1) := by decide +kernel
theorem dX8_look_1 : decode cX8_look 1 = .ok (.getfield 106, 3) := by decide +kernel
theorem dX8_look_4 : decode cX8_look 4 = .ok (.aload_n 0, 1) := by decide +kernel
theorem dX8_look_5 : decode cX8_look 5 = .ok (.getfield 109, 3) := by decide +kernel
theorem dX8_look_8 : decode cX8_look 8 = .ok (.getfield 112, 3) := by decide +kernel
theorem dX8_look_11 : decode cX8_look 11 = .ok (.if_icmp .ge 50, 3) := by decide +kernel
theorem dX8_look_14 : decode cX8_look 14 = .ok (.aload_n 0, 1) := by decide +kernel
theorem dX8_look_15 : decode cX8_look 15 = .ok (.getfield 109, 3) := by decide +kernel
theorem dX8_look_18 : decode cX8_look 18 = .ok (.getfield 113, 3) := by decide +kernel
theorem dX8_look_21 : decode cX8_look 21 = .ok (.aload_n 0, 1) := by decide +kernel
theorem dX8_look_22 : decode cX8_look 22 = .ok (.getfield 106, 3) := by decide +kernel
theorem dX8_look_25 : decode cX8_look 25 = .ok (.baload, 1) := by decide +kernel
theorem dX8_look_26 : decode cX8_look 26 = .ok (.bipush 32, 2) := by decide +kernel
theorem dX8_look_28 : decode cX8_look 28 = .ok (.if_icmp .eq 20, 3) := by decide +kernel
theorem dX8_look_31 : decode cX8_look 31 = .ok (.aload_n 0, 1) := by decide +kernel
theorem dX8_look_32 : decode cX8_look 32 = .ok (.getfield 109, 3) := by decide +kernel
theorem dX8_look_35 : decode cX8_look 35 = .ok (.getfield 113, 3) := by decide +kernel
theorem dX8_look_38 : decode cX8_look 38 = .ok (.aload_n 0, 1) := by decide +kernel
theorem dX8_look_39 : decode cX8_look 39 = .ok (.getfield 106, 3) := by decide +kernel
theorem dX8_look_42 : decode cX8_look 42 = .ok (.baload, 1) := by decide +kernel
theorem dX8_look_43 : decode cX8_look 43 = .ok (.bipush 10, 2) := by decide +kernel
theorem dX8_look_45 : decode cX8_look 45 = .ok (.if_icmp .ne 16, 3) := by decide +kernel
theorem dX8_look_48 : decode cX8_look 48 = .ok (.aload_n 0, 1) := by decide +kernel
theorem dX8_look_49 : decode cX8_look 49 = .ok (.dup, 1) := by decide +kernel
theorem dX8_look_50 : decode cX8_look 50 = .ok (.getfield 106, 3) := by decide +kernel
theorem dX8_look_53 : decode cX8_look 53 = .ok (.iconst 1, 1) := by decide +kernel
theorem dX8_look_54 : decode cX8_look 54 = .ok (.iadd, 1) := by decide +kernel
theorem dX8_look_55 : decode cX8_look 55 = .ok (.putfield 106, 3) := by decide +kernel
theorem dX8_look_58 : decode cX8_look 58 = .ok (.goto (-58), 3) := by decide +kernel
theorem dX8_look_61 : decode cX8_look 61 = .ok (.aload_n 0, 1) := by decide +kernel
theorem dX8_look_62 : decode cX8_look 62 = .ok (.getfield 106, 3) := by decide +kernel
theorem dX8_look_65 : decode cX8_look 65 = .ok (.aload_n 0, 1) := by decide +kernel
theorem dX8_look_66 : decode cX8_look 66 = .ok (.getfield 109, 3) := by decide +kernel
theorem dX8_look_69 : decode cX8_look 69 = .ok (.getfield 112, 3) := by decide +kernel
theorem dX8_look_72 : decode cX8_look 72 = .ok (.if_icmp .ge 22, 3) := by decide +kernel
theorem dX8_look_75 : decode cX8_look 75 = .ok (.aload_n 0, 1) := by decide +kernel
theorem dX8_look_76 : decode cX8_look 76 = .ok (.getfield 109, 3) := by decide +kernel
theorem dX8_look_79 : decode cX8_look 79 = .ok (.getfield 113, 3) := by decide +kernel
theorem dX8_look_82 : decode cX8_look 82 = .ok (.aload_n 0, 1) := by decide +kernel
theorem dX8_look_83 : decode cX8_look 83 = .ok (.getfield 106, 3) := by decide +kernel
theorem dX8_look_86 : decode cX8_look 86 = .ok (.baload, 1) := by decide +kernel
theorem dX8_look_87 : decode cX8_look 87 = .ok (.sipush 255, 3) := by decide +kernel
theorem dX8_look_90 : decode cX8_look 90 = .ok (.iand, 1) := by decide +kernel
theorem dX8_look_91 : decode cX8_look 91 = .ok (.goto 4, 3) := by decide +kernel
theorem dX8_look_94 : decode cX8_look 94 = .ok (.iconst (-1), 1) := by decide +kernel
theorem dX8_look_95 : decode cX8_look 95 = .ok (.ireturn, 1) := by decide +kernel
theorem dX8_isSmall_0 : decode cX8_isSmall 0 = .ok (.iload_n 0, 1) := by decide +kernel
theorem dX8_isSmall_1 : decode cX8_isSmall 1 = .ok (.bipush 97, 2) := by decide +kernel
theorem dX8_isSmall_3 : decode cX8_isSmall 3 = .ok (.if_icmp .lt 13, 3) := by decide +kernel
theorem dX8_isSmall_6 : decode cX8_isSmall 6 = .ok (.iload_n 0, 1) := by decide +kernel
theorem dX8_isSmall_7 : decode cX8_isSmall 7 = .ok (.bipush 122, 2) := by decide +kernel
theorem dX8_isSmall_9 : decode cX8_isSmall 9 = .ok (.if_icmp .gt 7, 3) := by decide +kernel
theorem dX8_isSmall_12 : decode cX8_isSmall 12 = .ok (.iconst 1, 1) := by decide +kernel
theorem dX8_isSmall_13 : decode cX8_isSmall 13 = .ok (.goto 4, 3) := by decide +kernel
theorem dX8_isSmall_16 : decode cX8_isSmall 16 = .ok (.iconst 0, 1) := by decide +kernel
theorem dX8_isSmall_17 : decode cX8_isSmall 17 = .ok (.ireturn, 1) := by decide +kernel
theorem dX8_isAtom_0 : decode cX8_isAtom 0 = .ok (.iload_n 0, 1) := by decide +kernel
theorem dX8_isAtom_1 : decode cX8_isAtom 1 = .ok (.invokestatic 116, 3) := by decide +kernel
theorem dX8_isAtom_4 : decode cX8_isAtom 4 = .ok (.ifCond .ne 15, 3) := by decide +kernel
theorem dX8_isAtom_7 : decode cX8_isAtom 7 = .ok (.iload_n 0, 1) := by decide +kernel
theorem dX8_isAtom_8 : decode cX8_isAtom 8 = .ok (.bipush 48, 2) := by decide +kernel
theorem dX8_isAtom_10 : decode cX8_isAtom 10 = .ok (.if_icmp .lt 13, 3) := by decide +kernel
theorem dX8_isAtom_13 : decode cX8_isAtom 13 = .ok (.iload_n 0, 1) := by decide +kernel
theorem dX8_isAtom_14 : decode cX8_isAtom 14 = .ok (.bipush 57, 2) := by decide +kernel
theorem dX8_isAtom_16 : decode cX8_isAtom 16 = .ok (.if_icmp .gt 7, 3) := by decide +kernel
theorem dX8_isAtom_19 : decode cX8_isAtom 19 = .ok (.iconst 1, 1) := by decide +kernel
theorem dX8_isAtom_20 : decode cX8_isAtom 20 = .ok (.goto 4, 3) := by decide +kernel
theorem dX8_isAtom_23 : decode cX8_isAtom 23 = .ok (.iconst 0, 1) := by decide +kernel
theorem dX8_isAtom_24 : decode cX8_isAtom 24 = .ok (.ireturn, 1) := by decide +kernel
theorem dX8_wrong_0 : decode cX8_wrong 0 = .ok (.aload_n 0, 1) := by decide +kernel
theorem dX8_wrong_1 : decode cX8_wrong 1 = .ok (.getfield 119, 3) := by decide +kernel
theorem dX8_wrong_4 : decode cX8_wrong 4 = .ok (.iconst (-1), 1) := by decide +kernel
theorem dX8_wrong_5 : decode cX8_wrong 5 = .ok (.if_icmp .ne 11, 3) := by decide +kernel
theorem dX8_wrong_8 : decode cX8_wrong 8 = .ok (.aload_n 0, 1) := by decide +kernel
theorem dX8_wrong_9 : decode cX8_wrong 9 = .ok (.aload_n 0, 1) := by decide +kernel
theorem dX8_wrong_10 : decode cX8_wrong 10 = .ok (.getfield 106, 3) := by decide +kernel
theorem dX8_wrong_13 : decode cX8_wrong 13 = .ok (.putfield 119, 3) := by decide +kernel
theorem dX8_wrong_16 : decode cX8_wrong 16 = .ok (.iconst 0, 1) := by decide +kernel
theorem dX8_wrong_17 : decode cX8_wrong 17 = .ok (.ireturn, 1) := by decide +kernel
theorem dX8_adds_0 : decode cX8_adds 0 = .ok (.aload_n 0, 1) := by decide +kernel
theorem dX8_adds_1 : decode cX8_adds 1 = .ok (.getfield 109, 3) := by decide +kernel
theorem dX8_adds_4 : decode cX8_adds 4 = .ok (.getfield 122, 3) := by decide +kernel
theorem dX8_adds_7 : decode cX8_adds 7 = .ok (.istore_n 3, 1) := by decide +kernel
theorem dX8_adds_8 : decode cX8_adds 8 = .ok (.aload_n 0, 1) := by decide +kernel
theorem dX8_adds_9 : decode cX8_adds 9 = .ok (.getfield 109, 3) := by decide +kernel
theorem dX8_adds_12 : decode cX8_adds 12 = .ok (.dup, 1) := by decide +kernel
theorem dX8_adds_13 : decode cX8_adds 13 = .ok (.getfield 122, 3) := by decide +kernel
theorem dX8_adds_16 : decode cX8_adds 16 = .ok (.iconst 1, 1) := by decide +kernel
theorem dX8_adds_17 : decode cX8_adds 17 = .ok (.iadd, 1) := by decide +kernel
theorem dX8_adds_18 : decode cX8_adds 18 = .ok (.putfield 122, 3) := by decide +kernel
theorem dX8_adds_21 : decode cX8_adds 21 = .ok (.aload_n 0, 1) := by decide +kernel
theorem dX8_adds_22 : decode cX8_adds 22 = .ok (.getfield 109, 3) := by decide +kernel
theorem dX8_adds_25 : decode cX8_adds 25 = .ok (.getfield 125, 3) := by decide +kernel
theorem dX8_adds_28 : decode cX8_adds 28 = .ok (.iload_n 3, 1) := by decide +kernel
theorem dX8_adds_29 : decode cX8_adds 29 = .ok (.iload_n 1, 1) := by decide +kernel
theorem dX8_adds_30 : decode cX8_adds 30 = .ok (.iastore, 1) := by decide +kernel
theorem dX8_adds_31 : decode cX8_adds 31 = .ok (.aload_n 0, 1) := by decide +kernel
theorem dX8_adds_32 : decode cX8_adds 32 = .ok (.getfield 109, 3) := by decide +kernel
theorem dX8_adds_35 : decode cX8_adds 35 = .ok (.getfield 128, 3) := by decide +kernel
theorem dX8_adds_38 : decode cX8_adds 38 = .ok (.iload_n 3, 1) := by decide +kernel
theorem dX8_adds_39 : decode cX8_adds 39 = .ok (.aload_n 0, 1) := by decide +kernel
theorem dX8_adds_40 : decode cX8_adds 40 = .ok (.getfield 106, 3) := by decide +kernel
theorem dX8_adds_43 : decode cX8_adds 43 = .ok (.iastore, 1) := by decide +kernel
theorem dX8_adds_44 : decode cX8_adds 44 = .ok (.aload_n 0, 1) := by decide +kernel
theorem dX8_adds_45 : decode cX8_adds 45 = .ok (.getfield 109, 3) := by decide +kernel
theorem dX8_adds_48 : decode cX8_adds 48 = .ok (.getfield 131, 3) := by decide +kernel
theorem dX8_adds_51 : decode cX8_adds 51 = .ok (.iload_n 3, 1) := by decide +kernel
theorem dX8_adds_52 : decode cX8_adds 52 = .ok (.iload_n 2, 1) := by decide +kernel
theorem dX8_adds_53 : decode cX8_adds 53 = .ok (.iastore, 1) := by decide +kernel
theorem dX8_adds_54 : decode cX8_adds 54 = .ok (.aload_n 0, 1) := by decide +kernel
theorem dX8_adds_55 : decode cX8_adds 55 = .ok (.getfield 109, 3) := by decide +kernel
theorem dX8_adds_58 : decode cX8_adds 58 = .ok (.getfield 134, 3) := by decide +kernel
theorem dX8_adds_61 : decode cX8_adds 61 = .ok (.iload_n 3, 1) := by decide +kernel
theorem dX8_adds_62 : decode cX8_adds 62 = .ok (.iconst 0, 1) := by decide +kernel
theorem dX8_adds_63 : decode cX8_adds 63 = .ok (.iastore, 1) := by decide +kernel
theorem dX8_adds_64 : decode cX8_adds 64 = .ok (.aload_n 0, 1) := by decide +kernel
theorem dX8_adds_65 : decode cX8_adds 65 = .ok (.getfield 109, 3) := by decide +kernel
theorem dX8_adds_68 : decode cX8_adds 68 = .ok (.getfield 137, 3) := by decide +kernel
theorem dX8_adds_71 : decode cX8_adds 71 = .ok (.iload_n 3, 1) := by decide +kernel
theorem dX8_adds_72 : decode cX8_adds 72 = .ok (.iconst 0, 1) := by decide +kernel
theorem dX8_adds_73 : decode cX8_adds 73 = .ok (.bastore, 1) := by decide +kernel
theorem dX8_adds_74 : decode cX8_adds 74 = .ok (.aload_n 0, 1) := by decide +kernel
theorem dX8_adds_75 : decode cX8_adds 75 = .ok (.getfield 109, 3) := by decide +kernel
theorem dX8_adds_78 : decode cX8_adds 78 = .ok (.getfield 140, 3) := by decide +kernel
theorem dX8_adds_81 : decode cX8_adds 81 = .ok (.iload_n 3, 1) := by decide +kernel
theorem dX8_adds_82 : decode cX8_adds 82 = .ok (.iconst (-1), 1) := by decide +kernel
theorem dX8_adds_83 : decode cX8_adds 83 = .ok (.iastore, 1) := by decide +kernel
theorem dX8_adds_84 : decode cX8_adds 84 = .ok (.iload_n 2, 1) := by decide +kernel
theorem dX8_adds_85 : decode cX8_adds 85 = .ok (.iconst (-1), 1) := by decide +kernel
theorem dX8_adds_86 : decode cX8_adds 86 = .ok (.if_icmp .eq 16, 3) := by decide +kernel
theorem dX8_adds_89 : decode cX8_adds 89 = .ok (.aload_n 0, 1) := by decide +kernel
theorem dX8_adds_90 : decode cX8_adds 90 = .ok (.getfield 109, 3) := by decide +kernel
theorem dX8_adds_93 : decode cX8_adds 93 = .ok (.getfield 134, 3) := by decide +kernel
theorem dX8_adds_96 : decode cX8_adds 96 = .ok (.iload_n 2, 1) := by decide +kernel
theorem dX8_adds_97 : decode cX8_adds 97 = .ok (.dup2, 1) := by decide +kernel
theorem dX8_adds_98 : decode cX8_adds 98 = .ok (.iaload, 1) := by decide +kernel
theorem dX8_adds_99 : decode cX8_adds 99 = .ok (.iconst 1, 1) := by decide +kernel
theorem dX8_adds_100 : decode cX8_adds 100 = .ok (.iadd, 1) := by decide +kernel
theorem dX8_adds_101 : decode cX8_adds 101 = .ok (.iastore, 1) := by decide +kernel
theorem dX8_adds_102 : decode cX8_adds 102 = .ok (.iload_n 3, 1) := by decide +kernel
theorem dX8_adds_103 : decode cX8_adds 103 = .ok (.ireturn, 1) := by decide +kernel
theorem dX8_opens_0 : decode cX8_opens 0 = .ok (.aload_n 0, 1) := by decide +kernel
theorem dX8_opens_1 : decode cX8_opens 1 = .ok (.getfield 143, 3) := by decide +kernel
theorem dX8_opens_4 : decode cX8_opens 4 = .ok (.bipush 12, 2) := by decide +kernel
theorem dX8_opens_6 : decode cX8_opens 6 = .ok (.if_icmp .ne 8, 3) := by decide +kernel
theorem dX8_opens_9 : decode cX8_opens 9 = .ok (.aload_n 0, 1) := by decide +kernel
theorem dX8_opens_10 : decode cX8_opens 10 = .ok (.invokevirtual 146, 3) := by decide +kernel
theorem dX8_opens_13 : decode cX8_opens 13 = .ok (.ireturn, 1) := by decide +kernel
theorem dX8_opens_14 : decode cX8_opens 14 = .ok (.aload_n 0, 1) := by decide +kernel
theorem dX8_opens_15 : decode cX8_opens 15 = .ok (.dup, 1) := by decide +kernel
theorem dX8_opens_16 : decode cX8_opens 16 = .ok (.getfield 143, 3) := by decide +kernel
theorem dX8_opens_19 : decode cX8_opens 19 = .ok (.iconst 1, 1) := by decide +kernel
theorem dX8_opens_20 : decode cX8_opens 20 = .ok (.iadd, 1) := by decide +kernel
theorem dX8_opens_21 : decode cX8_opens 21 = .ok (.putfield 143, 3) := by decide +kernel
theorem dX8_opens_24 : decode cX8_opens 24 = .ok (.aload_n 0, 1) := by decide +kernel
theorem dX8_opens_25 : decode cX8_opens 25 = .ok (.dup, 1) := by decide +kernel
theorem dX8_opens_26 : decode cX8_opens 26 = .ok (.getfield 106, 3) := by decide +kernel
theorem dX8_opens_29 : decode cX8_opens 29 = .ok (.iconst 1, 1) := by decide +kernel
theorem dX8_opens_30 : decode cX8_opens 30 = .ok (.iadd, 1) := by decide +kernel
theorem dX8_opens_31 : decode cX8_opens 31 = .ok (.putfield 106, 3) := by decide +kernel
theorem dX8_opens_34 : decode cX8_opens 34 = .ok (.iconst 1, 1) := by decide +kernel
theorem dX8_opens_35 : decode cX8_opens 35 = .ok (.ireturn, 1) := by decide +kernel
theorem dX8_lettered_0 : decode cX8_lettered 0 = .ok (.aload_n 0, 1) := by decide +kernel
theorem dX8_lettered_1 : decode cX8_lettered 1 = .ok (.getfield 106, 3) := by decide +kernel
theorem dX8_lettered_4 : decode cX8_lettered 4 = .ok (.istore_n 3, 1) := by decide +kernel
theorem dX8_lettered_5 : decode cX8_lettered 5 = .ok (.aload_n 0, 1) := by decide +kernel
theorem dX8_lettered_6 : decode cX8_lettered 6 = .ok (.dup, 1) := by decide +kernel
theorem dX8_lettered_7 : decode cX8_lettered 7 = .ok (.getfield 106, 3) := by decide +kernel
theorem dX8_lettered_10 : decode cX8_lettered 10 = .ok (.iconst 1, 1) := by decide +kernel
theorem dX8_lettered_11 : decode cX8_lettered 11 = .ok (.iadd, 1) := by decide +kernel
end
section
theorem dX8_lettered_12 : decode cX8_lettered 12 = .ok (.putfield 106, 3) := by decide +kernel
theorem dX8_lettered_15 : decode cX8_lettered 15 = .ok (.aload_n 0, 1) := by decide +kernel
theorem dX8_lettered_16 : decode cX8_lettered 16 = .ok (.getfield 106, 3) := by decide +kernel
theorem dX8_lettered_19 : decode cX8_lettered 19 = .ok (.aload_n 0, 1) := by decide +kernel
theorem dX8_lettered_20 : decode cX8_lettered 20 = .ok (.getfield 109, 3) := by decide +kernel
theorem dX8_lettered_23 : decode cX8_lettered 23 = .ok (.getfield 112, 3) := by decide +kernel
theorem dX8_lettered_26 : decode cX8_lettered 26 = .ok (.if_icmp .ge 22, 3) := by decide +kernel
theorem dX8_lettered_29 : decode cX8_lettered 29 = .ok (.aload_n 0, 1) := by decide +kernel
theorem dX8_lettered_30 : decode cX8_lettered 30 = .ok (.getfield 109, 3) := by decide +kernel
theorem dX8_lettered_33 : decode cX8_lettered 33 = .ok (.getfield 113, 3) := by decide +kernel
theorem dX8_lettered_36 : decode cX8_lettered 36 = .ok (.aload_n 0, 1) := by decide +kernel
theorem dX8_lettered_37 : decode cX8_lettered 37 = .ok (.getfield 106, 3) := by decide +kernel
theorem dX8_lettered_40 : decode cX8_lettered 40 = .ok (.baload, 1) := by decide +kernel
theorem dX8_lettered_41 : decode cX8_lettered 41 = .ok (.sipush 255, 3) := by decide +kernel
theorem dX8_lettered_44 : decode cX8_lettered 44 = .ok (.iand, 1) := by decide +kernel
theorem dX8_lettered_45 : decode cX8_lettered 45 = .ok (.goto 4, 3) := by decide +kernel
theorem dX8_lettered_48 : decode cX8_lettered 48 = .ok (.iconst (-1), 1) := by decide +kernel
theorem dX8_lettered_49 : decode cX8_lettered 49 = .ok (.istore 4, 2) := by decide +kernel
theorem dX8_lettered_51 : decode cX8_lettered 51 = .ok (.iload 4, 2) := by decide +kernel
theorem dX8_lettered_53 : decode cX8_lettered 53 = .ok (.invokestatic 116, 3) := by decide +kernel
theorem dX8_lettered_56 : decode cX8_lettered 56 = .ok (.ifCond .ne 8, 3) := by decide +kernel
theorem dX8_lettered_59 : decode cX8_lettered 59 = .ok (.aload_n 0, 1) := by decide +kernel
theorem dX8_lettered_60 : decode cX8_lettered 60 = .ok (.invokevirtual 146, 3) := by decide +kernel
theorem dX8_lettered_63 : decode cX8_lettered 63 = .ok (.ireturn, 1) := by decide +kernel
theorem dX8_lettered_64 : decode cX8_lettered 64 = .ok (.iload 4, 2) := by decide +kernel
theorem dX8_lettered_66 : decode cX8_lettered 66 = .ok (.bipush 97, 2) := by decide +kernel
theorem dX8_lettered_68 : decode cX8_lettered 68 = .ok (.isub, 1) := by decide +kernel
theorem dX8_lettered_69 : decode cX8_lettered 69 = .ok (.istore 5, 2) := by decide +kernel
theorem dX8_lettered_71 : decode cX8_lettered 71 = .ok (.aload_n 0, 1) := by decide +kernel
theorem dX8_lettered_72 : decode cX8_lettered 72 = .ok (.iload_n 3, 1) := by decide +kernel
theorem dX8_lettered_73 : decode cX8_lettered 73 = .ok (.putfield 106, 3) := by decide +kernel
theorem dX8_lettered_76 : decode cX8_lettered 76 = .ok (.aload_n 0, 1) := by decide +kernel
theorem dX8_lettered_77 : decode cX8_lettered 77 = .ok (.getfield 43, 3) := by decide +kernel
theorem dX8_lettered_80 : decode cX8_lettered 80 = .ok (.iload 5, 2) := by decide +kernel
theorem dX8_lettered_82 : decode cX8_lettered 82 = .ok (.iaload, 1) := by decide +kernel
theorem dX8_lettered_83 : decode cX8_lettered 83 = .ok (.iconst (-1), 1) := by decide +kernel
theorem dX8_lettered_84 : decode cX8_lettered 84 = .ok (.if_icmp .eq 19, 3) := by decide +kernel
theorem dX8_lettered_87 : decode cX8_lettered 87 = .ok (.aload_n 0, 1) := by decide +kernel
theorem dX8_lettered_88 : decode cX8_lettered 88 = .ok (.getfield 43, 3) := by decide +kernel
theorem dX8_lettered_91 : decode cX8_lettered 91 = .ok (.iload 5, 2) := by decide +kernel
theorem dX8_lettered_93 : decode cX8_lettered 93 = .ok (.iaload, 1) := by decide +kernel
theorem dX8_lettered_94 : decode cX8_lettered 94 = .ok (.iload_n 1, 1) := by decide +kernel
theorem dX8_lettered_95 : decode cX8_lettered 95 = .ok (.if_icmp .eq 8, 3) := by decide +kernel
theorem dX8_lettered_98 : decode cX8_lettered 98 = .ok (.aload_n 0, 1) := by decide +kernel
theorem dX8_lettered_99 : decode cX8_lettered 99 = .ok (.invokevirtual 146, 3) := by decide +kernel
theorem dX8_lettered_102 : decode cX8_lettered 102 = .ok (.ireturn, 1) := by decide +kernel
theorem dX8_lettered_103 : decode cX8_lettered 103 = .ok (.aload_n 0, 1) := by decide +kernel
theorem dX8_lettered_104 : decode cX8_lettered 104 = .ok (.getfield 43, 3) := by decide +kernel
theorem dX8_lettered_107 : decode cX8_lettered 107 = .ok (.iload 5, 2) := by decide +kernel
theorem dX8_lettered_109 : decode cX8_lettered 109 = .ok (.iload_n 1, 1) := by decide +kernel
theorem dX8_lettered_110 : decode cX8_lettered 110 = .ok (.iastore, 1) := by decide +kernel
theorem dX8_lettered_111 : decode cX8_lettered 111 = .ok (.aload_n 0, 1) := by decide +kernel
theorem dX8_lettered_112 : decode cX8_lettered 112 = .ok (.iload_n 1, 1) := by decide +kernel
theorem dX8_lettered_113 : decode cX8_lettered 113 = .ok (.iload_n 2, 1) := by decide +kernel
theorem dX8_lettered_114 : decode cX8_lettered 114 = .ok (.invokevirtual 150, 3) := by decide +kernel
theorem dX8_lettered_117 : decode cX8_lettered 117 = .ok (.istore 6, 2) := by decide +kernel
theorem dX8_lettered_119 : decode cX8_lettered 119 = .ok (.aload_n 0, 1) := by decide +kernel
theorem dX8_lettered_120 : decode cX8_lettered 120 = .ok (.getfield 109, 3) := by decide +kernel
theorem dX8_lettered_123 : decode cX8_lettered 123 = .ok (.getfield 140, 3) := by decide +kernel
theorem dX8_lettered_126 : decode cX8_lettered 126 = .ok (.iload 6, 2) := by decide +kernel
theorem dX8_lettered_128 : decode cX8_lettered 128 = .ok (.iload 5, 2) := by decide +kernel
theorem dX8_lettered_130 : decode cX8_lettered 130 = .ok (.iastore, 1) := by decide +kernel
theorem dX8_lettered_131 : decode cX8_lettered 131 = .ok (.aload_n 0, 1) := by decide +kernel
theorem dX8_lettered_132 : decode cX8_lettered 132 = .ok (.dup, 1) := by decide +kernel
theorem dX8_lettered_133 : decode cX8_lettered 133 = .ok (.getfield 106, 3) := by decide +kernel
theorem dX8_lettered_136 : decode cX8_lettered 136 = .ok (.iconst 2, 1) := by decide +kernel
theorem dX8_lettered_137 : decode cX8_lettered 137 = .ok (.iadd, 1) := by decide +kernel
theorem dX8_lettered_138 : decode cX8_lettered 138 = .ok (.putfield 106, 3) := by decide +kernel
theorem dX8_lettered_141 : decode cX8_lettered 141 = .ok (.aload_n 0, 1) := by decide +kernel
theorem dX8_lettered_142 : decode cX8_lettered 142 = .ok (.getfield 109, 3) := by decide +kernel
theorem dX8_lettered_145 : decode cX8_lettered 145 = .ok (.getfield 154, 3) := by decide +kernel
theorem dX8_lettered_148 : decode cX8_lettered 148 = .ok (.iload 6, 2) := by decide +kernel
theorem dX8_lettered_150 : decode cX8_lettered 150 = .ok (.aload_n 0, 1) := by decide +kernel
theorem dX8_lettered_151 : decode cX8_lettered 151 = .ok (.getfield 106, 3) := by decide +kernel
theorem dX8_lettered_154 : decode cX8_lettered 154 = .ok (.iastore, 1) := by decide +kernel
theorem dX8_lettered_155 : decode cX8_lettered 155 = .ok (.iconst 1, 1) := by decide +kernel
theorem dX8_lettered_156 : decode cX8_lettered 156 = .ok (.ireturn, 1) := by decide +kernel
theorem dX8_piece_0 : decode cX8_piece 0 = .ok (.aload_n 0, 1) := by decide +kernel
theorem dX8_piece_1 : decode cX8_piece 1 = .ok (.invokevirtual 157, 3) := by decide +kernel
theorem dX8_piece_4 : decode cX8_piece 4 = .ok (.istore_n 3, 1) := by decide +kernel
theorem dX8_piece_5 : decode cX8_piece 5 = .ok (.iload_n 3, 1) := by decide +kernel
theorem dX8_piece_6 : decode cX8_piece 6 = .ok (.invokestatic 161, 3) := by decide +kernel
theorem dX8_piece_9 : decode cX8_piece 9 = .ok (.ifCond .eq 9, 3) := by decide +kernel
theorem dX8_piece_12 : decode cX8_piece 12 = .ok (.aload_n 0, 1) := by decide +kernel
theorem dX8_piece_13 : decode cX8_piece 13 = .ok (.iload_n 1, 1) := by decide +kernel
theorem dX8_piece_14 : decode cX8_piece 14 = .ok (.invokevirtual 164, 3) := by decide +kernel
theorem dX8_piece_17 : decode cX8_piece 17 = .ok (.ireturn, 1) := by decide +kernel
theorem dX8_piece_18 : decode cX8_piece 18 = .ok (.aload_n 0, 1) := by decide +kernel
theorem dX8_piece_19 : decode cX8_piece 19 = .ok (.getfield 167, 3) := by decide +kernel
theorem dX8_piece_22 : decode cX8_piece 22 = .ok (.ifCond .eq 16, 3) := by decide +kernel
theorem dX8_piece_25 : decode cX8_piece 25 = .ok (.iload_n 3, 1) := by decide +kernel
theorem dX8_piece_26 : decode cX8_piece 26 = .ok (.bipush 63, 2) := by decide +kernel
theorem dX8_piece_28 : decode cX8_piece 28 = .ok (.if_icmp .ne 10, 3) := by decide +kernel
theorem dX8_piece_31 : decode cX8_piece 31 = .ok (.aload_n 0, 1) := by decide +kernel
theorem dX8_piece_32 : decode cX8_piece 32 = .ok (.iconst 1, 1) := by decide +kernel
theorem dX8_piece_33 : decode cX8_piece 33 = .ok (.iload_n 1, 1) := by decide +kernel
theorem dX8_piece_34 : decode cX8_piece 34 = .ok (.invokevirtual 170, 3) := by decide +kernel
theorem dX8_piece_37 : decode cX8_piece 37 = .ok (.ireturn, 1) := by decide +kernel
theorem dX8_piece_38 : decode cX8_piece 38 = .ok (.aload_n 0, 1) := by decide +kernel
theorem dX8_piece_39 : decode cX8_piece 39 = .ok (.getfield 167, 3) := by decide +kernel
theorem dX8_piece_42 : decode cX8_piece 42 = .ok (.ifCond .eq 58, 3) := by decide +kernel
theorem dX8_piece_45 : decode cX8_piece 45 = .ok (.iload_n 3, 1) := by decide +kernel
theorem dX8_piece_46 : decode cX8_piece 46 = .ok (.bipush 42, 2) := by decide +kernel
theorem dX8_piece_48 : decode cX8_piece 48 = .ok (.if_icmp .ne 52, 3) := by decide +kernel
theorem dX8_piece_51 : decode cX8_piece 51 = .ok (.iload_n 2, 1) := by decide +kernel
theorem dX8_piece_52 : decode cX8_piece 52 = .ok (.ifCond .eq 48, 3) := by decide +kernel
theorem dX8_piece_55 : decode cX8_piece 55 = .ok (.aload_n 0, 1) := by decide +kernel
theorem dX8_piece_56 : decode cX8_piece 56 = .ok (.getfield 167, 3) := by decide +kernel
theorem dX8_piece_59 : decode cX8_piece 59 = .ok (.iconst 1, 1) := by decide +kernel
theorem dX8_piece_60 : decode cX8_piece 60 = .ok (.if_icmp .ne 23, 3) := by decide +kernel
theorem dX8_piece_63 : decode cX8_piece 63 = .ok (.aload_n 0, 1) := by decide +kernel
theorem dX8_piece_64 : decode cX8_piece 64 = .ok (.getfield 174, 3) := by decide +kernel
theorem dX8_piece_67 : decode cX8_piece 67 = .ok (.ifCond .ne 11, 3) := by decide +kernel
theorem dX8_piece_70 : decode cX8_piece 70 = .ok (.aload_n 0, 1) := by decide +kernel
theorem dX8_piece_71 : decode cX8_piece 71 = .ok (.getfield 178, 3) := by decide +kernel
theorem dX8_piece_74 : decode cX8_piece 74 = .ok (.iconst 2, 1) := by decide +kernel
theorem dX8_piece_75 : decode cX8_piece 75 = .ok (.if_icmp .ne 8, 3) := by decide +kernel
theorem dX8_piece_78 : decode cX8_piece 78 = .ok (.aload_n 0, 1) := by decide +kernel
theorem dX8_piece_79 : decode cX8_piece 79 = .ok (.invokevirtual 146, 3) := by decide +kernel
theorem dX8_piece_82 : decode cX8_piece 82 = .ok (.ireturn, 1) := by decide +kernel
theorem dX8_piece_83 : decode cX8_piece 83 = .ok (.aload_n 0, 1) := by decide +kernel
theorem dX8_piece_84 : decode cX8_piece 84 = .ok (.dup, 1) := by decide +kernel
theorem dX8_piece_85 : decode cX8_piece 85 = .ok (.getfield 178, 3) := by decide +kernel
theorem dX8_piece_88 : decode cX8_piece 88 = .ok (.iconst 1, 1) := by decide +kernel
theorem dX8_piece_89 : decode cX8_piece 89 = .ok (.iadd, 1) := by decide +kernel
theorem dX8_piece_90 : decode cX8_piece 90 = .ok (.putfield 178, 3) := by decide +kernel
theorem dX8_piece_93 : decode cX8_piece 93 = .ok (.aload_n 0, 1) := by decide +kernel
theorem dX8_piece_94 : decode cX8_piece 94 = .ok (.iconst 2, 1) := by decide +kernel
theorem dX8_piece_95 : decode cX8_piece 95 = .ok (.iload_n 1, 1) := by decide +kernel
theorem dX8_piece_96 : decode cX8_piece 96 = .ok (.invokevirtual 170, 3) := by decide +kernel
theorem dX8_piece_99 : decode cX8_piece 99 = .ok (.ireturn, 1) := by decide +kernel
theorem dX8_piece_100 : decode cX8_piece 100 = .ok (.aload_n 0, 1) := by decide +kernel
theorem dX8_piece_101 : decode cX8_piece 101 = .ok (.getfield 167, 3) := by decide +kernel
theorem dX8_piece_104 : decode cX8_piece 104 = .ok (.iconst 1, 1) := by decide +kernel
theorem dX8_piece_105 : decode cX8_piece 105 = .ok (.if_icmp .ne 145, 3) := by decide +kernel
theorem dX8_piece_108 : decode cX8_piece 108 = .ok (.iload_n 3, 1) := by decide +kernel
theorem dX8_piece_109 : decode cX8_piece 109 = .ok (.bipush 64, 2) := by decide +kernel
theorem dX8_piece_111 : decode cX8_piece 111 = .ok (.if_icmp .ne 139, 3) := by decide +kernel
theorem dX8_piece_114 : decode cX8_piece 114 = .ok (.aload_n 0, 1) := by decide +kernel
theorem dX8_piece_115 : decode cX8_piece 115 = .ok (.getfield 181, 3) := by decide +kernel
theorem dX8_piece_118 : decode cX8_piece 118 = .ok (.iconst 1, 1) := by decide +kernel
theorem dX8_piece_119 : decode cX8_piece 119 = .ok (.if_icmp .ne 8, 3) := by decide +kernel
theorem dX8_piece_122 : decode cX8_piece 122 = .ok (.aload_n 0, 1) := by decide +kernel
theorem dX8_piece_123 : decode cX8_piece 123 = .ok (.invokevirtual 146, 3) := by decide +kernel
theorem dX8_piece_126 : decode cX8_piece 126 = .ok (.ireturn, 1) := by decide +kernel
theorem dX8_piece_127 : decode cX8_piece 127 = .ok (.aload_n 0, 1) := by decide +kernel
theorem dX8_piece_128 : decode cX8_piece 128 = .ok (.dup, 1) := by decide +kernel
theorem dX8_piece_129 : decode cX8_piece 129 = .ok (.getfield 181, 3) := by decide +kernel
theorem dX8_piece_132 : decode cX8_piece 132 = .ok (.iconst 1, 1) := by decide +kernel
theorem dX8_piece_133 : decode cX8_piece 133 = .ok (.iadd, 1) := by decide +kernel
theorem dX8_piece_134 : decode cX8_piece 134 = .ok (.putfield 181, 3) := by decide +kernel
theorem dX8_piece_137 : decode cX8_piece 137 = .ok (.aload_n 0, 1) := by decide +kernel
theorem dX8_piece_138 : decode cX8_piece 138 = .ok (.iconst 3, 1) := by decide +kernel
theorem dX8_piece_139 : decode cX8_piece 139 = .ok (.iload_n 1, 1) := by decide +kernel
theorem dX8_piece_140 : decode cX8_piece 140 = .ok (.invokevirtual 150, 3) := by decide +kernel
theorem dX8_piece_143 : decode cX8_piece 143 = .ok (.istore 4, 2) := by decide +kernel
theorem dX8_piece_145 : decode cX8_piece 145 = .ok (.aload_n 0, 1) := by decide +kernel
theorem dX8_piece_146 : decode cX8_piece 146 = .ok (.dup, 1) := by decide +kernel
theorem dX8_piece_147 : decode cX8_piece 147 = .ok (.getfield 106, 3) := by decide +kernel
theorem dX8_piece_150 : decode cX8_piece 150 = .ok (.iconst 1, 1) := by decide +kernel
theorem dX8_piece_151 : decode cX8_piece 151 = .ok (.iadd, 1) := by decide +kernel
theorem dX8_piece_152 : decode cX8_piece 152 = .ok (.putfield 106, 3) := by decide +kernel
theorem dX8_piece_155 : decode cX8_piece 155 = .ok (.aload_n 0, 1) := by decide +kernel
theorem dX8_piece_156 : decode cX8_piece 156 = .ok (.invokevirtual 157, 3) := by decide +kernel
theorem dX8_piece_159 : decode cX8_piece 159 = .ok (.bipush 40, 2) := by decide +kernel
theorem dX8_piece_161 : decode cX8_piece 161 = .ok (.if_icmp .eq 8, 3) := by decide +kernel
theorem dX8_piece_164 : decode cX8_piece 164 = .ok (.aload_n 0, 1) := by decide +kernel
theorem dX8_piece_165 : decode cX8_piece 165 = .ok (.invokevirtual 146, 3) := by decide +kernel
theorem dX8_piece_168 : decode cX8_piece 168 = .ok (.ireturn, 1) := by decide +kernel
theorem dX8_piece_169 : decode cX8_piece 169 = .ok (.aload_n 0, 1) := by decide +kernel
theorem dX8_piece_170 : decode cX8_piece 170 = .ok (.invokevirtual 184, 3) := by decide +kernel
theorem dX8_piece_173 : decode cX8_piece 173 = .ok (.ifCond .ne 5, 3) := by decide +kernel
theorem dX8_piece_176 : decode cX8_piece 176 = .ok (.iconst 0, 1) := by decide +kernel
theorem dX8_piece_177 : decode cX8_piece 177 = .ok (.ireturn, 1) := by decide +kernel
theorem dX8_piece_178 : decode cX8_piece 178 = .ok (.aload_n 0, 1) := by decide +kernel
theorem dX8_piece_179 : decode cX8_piece 179 = .ok (.iconst 1, 1) := by decide +kernel
theorem dX8_piece_180 : decode cX8_piece 180 = .ok (.putfield 174, 3) := by decide +kernel
theorem dX8_piece_183 : decode cX8_piece 183 = .ok (.aload_n 0, 1) := by decide +kernel
theorem dX8_piece_184 : decode cX8_piece 184 = .ok (.iload 4, 2) := by decide +kernel
theorem dX8_piece_186 : decode cX8_piece 186 = .ok (.iconst 0, 1) := by decide +kernel
theorem dX8_piece_187 : decode cX8_piece 187 = .ok (.invokevirtual 187, 3) := by decide +kernel
theorem dX8_piece_190 : decode cX8_piece 190 = .ok (.ifCond .ne 5, 3) := by decide +kernel
theorem dX8_piece_193 : decode cX8_piece 193 = .ok (.iconst 0, 1) := by decide +kernel
theorem dX8_piece_194 : decode cX8_piece 194 = .ok (.ireturn, 1) := by decide +kernel
theorem dX8_piece_195 : decode cX8_piece 195 = .ok (.aload_n 0, 1) := by decide +kernel
theorem dX8_piece_196 : decode cX8_piece 196 = .ok (.iconst 0, 1) := by decide +kernel
theorem dX8_piece_197 : decode cX8_piece 197 = .ok (.putfield 174, 3) := by decide +kernel
theorem dX8_piece_200 : decode cX8_piece 200 = .ok (.aload_n 0, 1) := by decide +kernel
theorem dX8_piece_201 : decode cX8_piece 201 = .ok (.invokevirtual 157, 3) := by decide +kernel
theorem dX8_piece_204 : decode cX8_piece 204 = .ok (.bipush 41, 2) := by decide +kernel
theorem dX8_piece_206 : decode cX8_piece 206 = .ok (.if_icmp .eq 8, 3) := by decide +kernel
theorem dX8_piece_209 : decode cX8_piece 209 = .ok (.aload_n 0, 1) := by decide +kernel
theorem dX8_piece_210 : decode cX8_piece 210 = .ok (.invokevirtual 146, 3) := by decide +kernel
theorem dX8_piece_213 : decode cX8_piece 213 = .ok (.ireturn, 1) := by decide +kernel
theorem dX8_piece_214 : decode cX8_piece 214 = .ok (.aload_n 0, 1) := by decide +kernel
theorem dX8_piece_215 : decode cX8_piece 215 = .ok (.dup, 1) := by decide +kernel
theorem dX8_piece_216 : decode cX8_piece 216 = .ok (.getfield 143, 3) := by decide +kernel
theorem dX8_piece_219 : decode cX8_piece 219 = .ok (.iconst 1, 1) := by decide +kernel
theorem dX8_piece_220 : decode cX8_piece 220 = .ok (.isub, 1) := by decide +kernel
theorem dX8_piece_221 : decode cX8_piece 221 = .ok (.putfield 143, 3) := by decide +kernel
theorem dX8_piece_224 : decode cX8_piece 224 = .ok (.aload_n 0, 1) := by decide +kernel
theorem dX8_piece_225 : decode cX8_piece 225 = .ok (.dup, 1) := by decide +kernel
theorem dX8_piece_226 : decode cX8_piece 226 = .ok (.getfield 106, 3) := by decide +kernel
theorem dX8_piece_229 : decode cX8_piece 229 = .ok (.iconst 1, 1) := by decide +kernel
theorem dX8_piece_230 : decode cX8_piece 230 = .ok (.iadd, 1) := by decide +kernel
theorem dX8_piece_231 : decode cX8_piece 231 = .ok (.putfield 106, 3) := by decide +kernel
theorem dX8_piece_234 : decode cX8_piece 234 = .ok (.aload_n 0, 1) := by decide +kernel
theorem dX8_piece_235 : decode cX8_piece 235 = .ok (.getfield 109, 3) := by decide +kernel
theorem dX8_piece_238 : decode cX8_piece 238 = .ok (.getfield 154, 3) := by decide +kernel
theorem dX8_piece_241 : decode cX8_piece 241 = .ok (.iload 4, 2) := by decide +kernel
theorem dX8_piece_243 : decode cX8_piece 243 = .ok (.aload_n 0, 1) := by decide +kernel
theorem dX8_piece_244 : decode cX8_piece 244 = .ok (.getfield 106, 3) := by decide +kernel
theorem dX8_piece_247 : decode cX8_piece 247 = .ok (.iastore, 1) := by decide +kernel
theorem dX8_piece_248 : decode cX8_piece 248 = .ok (.iconst 1, 1) := by decide +kernel
theorem dX8_piece_249 : decode cX8_piece 249 = .ok (.ireturn, 1) := by decide +kernel
theorem dX8_piece_250 : decode cX8_piece 250 = .ok (.aload_n 0, 1) := by decide +kernel
theorem dX8_piece_251 : decode cX8_piece 251 = .ok (.invokevirtual 146, 3) := by decide +kernel
theorem dX8_piece_254 : decode cX8_piece 254 = .ok (.ireturn, 1) := by decide +kernel
theorem dX8_term_0 : decode cX8_term 0 = .ok (.aload_n 0, 1) := by decide +kernel
theorem dX8_term_1 : decode cX8_term 1 = .ok (.iconst 0, 1) := by decide +kernel
theorem dX8_term_2 : decode cX8_term 2 = .ok (.iload_n 1, 1) := by decide +kernel
theorem dX8_term_3 : decode cX8_term 3 = .ok (.invokevirtual 150, 3) := by decide +kernel
theorem dX8_term_6 : decode cX8_term 6 = .ok (.istore_n 2, 1) := by decide +kernel
theorem dX8_term_7 : decode cX8_term 7 = .ok (.aload_n 0, 1) := by decide +kernel
theorem dX8_term_8 : decode cX8_term 8 = .ok (.getfield 106, 3) := by decide +kernel
theorem dX8_term_11 : decode cX8_term 11 = .ok (.aload_n 0, 1) := by decide +kernel
theorem dX8_term_12 : decode cX8_term 12 = .ok (.getfield 109, 3) := by decide +kernel
theorem dX8_term_15 : decode cX8_term 15 = .ok (.getfield 112, 3) := by decide +kernel
theorem dX8_term_18 : decode cX8_term 18 = .ok (.if_icmp .ge 34, 3) := by decide +kernel
theorem dX8_term_21 : decode cX8_term 21 = .ok (.aload_n 0, 1) := by decide +kernel
theorem dX8_term_22 : decode cX8_term 22 = .ok (.getfield 109, 3) := by decide +kernel
theorem dX8_term_25 : decode cX8_term 25 = .ok (.getfield 113, 3) := by decide +kernel
theorem dX8_term_28 : decode cX8_term 28 = .ok (.aload_n 0, 1) := by decide +kernel
theorem dX8_term_29 : decode cX8_term 29 = .ok (.getfield 106, 3) := by decide +kernel
theorem dX8_term_32 : decode cX8_term 32 = .ok (.baload, 1) := by decide +kernel
theorem dX8_term_33 : decode cX8_term 33 = .ok (.invokestatic 161, 3) := by decide +kernel
theorem dX8_term_36 : decode cX8_term 36 = .ok (.ifCond .eq 16, 3) := by decide +kernel
theorem dX8_term_39 : decode cX8_term 39 = .ok (.aload_n 0, 1) := by decide +kernel
theorem dX8_term_40 : decode cX8_term 40 = .ok (.dup, 1) := by decide +kernel
theorem dX8_term_41 : decode cX8_term 41 = .ok (.getfield 106, 3) := by decide +kernel
theorem dX8_term_44 : decode cX8_term 44 = .ok (.iconst 1, 1) := by decide +kernel
theorem dX8_term_45 : decode cX8_term 45 = .ok (.iadd, 1) := by decide +kernel
theorem dX8_term_46 : decode cX8_term 46 = .ok (.putfield 106, 3) := by decide +kernel
theorem dX8_term_49 : decode cX8_term 49 = .ok (.goto (-42), 3) := by decide +kernel
theorem dX8_term_52 : decode cX8_term 52 = .ok (.aload_n 0, 1) := by decide +kernel
theorem dX8_term_53 : decode cX8_term 53 = .ok (.getfield 109, 3) := by decide +kernel
theorem dX8_term_56 : decode cX8_term 56 = .ok (.getfield 191, 3) := by decide +kernel
theorem dX8_term_59 : decode cX8_term 59 = .ok (.iload_n 2, 1) := by decide +kernel
theorem dX8_term_60 : decode cX8_term 60 = .ok (.aload_n 0, 1) := by decide +kernel
theorem dX8_term_61 : decode cX8_term 61 = .ok (.getfield 106, 3) := by decide +kernel
theorem dX8_term_64 : decode cX8_term 64 = .ok (.iastore, 1) := by decide +kernel
theorem dX8_term_65 : decode cX8_term 65 = .ok (.aload_n 0, 1) := by decide +kernel
theorem dX8_term_66 : decode cX8_term 66 = .ok (.getfield 109, 3) := by decide +kernel
theorem dX8_term_69 : decode cX8_term 69 = .ok (.getfield 154, 3) := by decide +kernel
theorem dX8_term_72 : decode cX8_term 72 = .ok (.iload_n 2, 1) := by decide +kernel
theorem dX8_term_73 : decode cX8_term 73 = .ok (.aload_n 0, 1) := by decide +kernel
theorem dX8_term_74 : decode cX8_term 74 = .ok (.getfield 106, 3) := by decide +kernel
theorem dX8_term_77 : decode cX8_term 77 = .ok (.iastore, 1) := by decide +kernel
theorem dX8_term_78 : decode cX8_term 78 = .ok (.aload_n 0, 1) := by decide +kernel
theorem dX8_term_79 : decode cX8_term 79 = .ok (.invokevirtual 157, 3) := by decide +kernel
theorem dX8_term_82 : decode cX8_term 82 = .ok (.bipush 40, 2) := by decide +kernel
theorem dX8_term_84 : decode cX8_term 84 = .ok (.if_icmp .eq 5, 3) := by decide +kernel
theorem dX8_term_87 : decode cX8_term 87 = .ok (.iconst 1, 1) := by decide +kernel
theorem dX8_term_88 : decode cX8_term 88 = .ok (.ireturn, 1) := by decide +kernel
theorem dX8_term_89 : decode cX8_term 89 = .ok (.aload_n 0, 1) := by decide +kernel
theorem dX8_term_90 : decode cX8_term 90 = .ok (.getfield 109, 3) := by decide +kernel
theorem dX8_term_93 : decode cX8_term 93 = .ok (.getfield 137, 3) := by decide +kernel
theorem dX8_term_96 : decode cX8_term 96 = .ok (.iload_n 2, 1) := by decide +kernel
theorem dX8_term_97 : decode cX8_term 97 = .ok (.iconst 1, 1) := by decide +kernel
theorem dX8_term_98 : decode cX8_term 98 = .ok (.bastore, 1) := by decide +kernel
theorem dX8_term_99 : decode cX8_term 99 = .ok (.aload_n 0, 1) := by decide +kernel
theorem dX8_term_100 : decode cX8_term 100 = .ok (.invokevirtual 184, 3) := by decide +kernel
theorem dX8_term_103 : decode cX8_term 103 = .ok (.ifCond .ne 5, 3) := by decide +kernel
theorem dX8_term_106 : decode cX8_term 106 = .ok (.iconst 0, 1) := by decide +kernel
theorem dX8_term_107 : decode cX8_term 107 = .ok (.ireturn, 1) := by decide +kernel
theorem dX8_term_108 : decode cX8_term 108 = .ok (.aload_n 0, 1) := by decide +kernel
theorem dX8_term_109 : decode cX8_term 109 = .ok (.invokevirtual 157, 3) := by decide +kernel
theorem dX8_term_112 : decode cX8_term 112 = .ok (.bipush 41, 2) := by decide +kernel
theorem dX8_term_114 : decode cX8_term 114 = .ok (.if_icmp .eq 58, 3) := by decide +kernel
theorem dX8_term_117 : decode cX8_term 117 = .ok (.aload_n 0, 1) := by decide +kernel
theorem dX8_term_118 : decode cX8_term 118 = .ok (.iload_n 2, 1) := by decide +kernel
theorem dX8_term_119 : decode cX8_term 119 = .ok (.iconst 1, 1) := by decide +kernel
theorem dX8_term_120 : decode cX8_term 120 = .ok (.invokevirtual 187, 3) := by decide +kernel
theorem dX8_term_123 : decode cX8_term 123 = .ok (.ifCond .ne 5, 3) := by decide +kernel
theorem dX8_term_126 : decode cX8_term 126 = .ok (.iconst 0, 1) := by decide +kernel
theorem dX8_term_127 : decode cX8_term 127 = .ok (.ireturn, 1) := by decide +kernel
theorem dX8_term_128 : decode cX8_term 128 = .ok (.aload_n 0, 1) := by decide +kernel
theorem dX8_term_129 : decode cX8_term 129 = .ok (.invokevirtual 157, 3) := by decide +kernel
theorem dX8_term_132 : decode cX8_term 132 = .ok (.bipush 44, 2) := by decide +kernel
theorem dX8_term_134 : decode cX8_term 134 = .ok (.if_icmp .ne 24, 3) := by decide +kernel
theorem dX8_term_137 : decode cX8_term 137 = .ok (.aload_n 0, 1) := by decide +kernel
theorem dX8_term_138 : decode cX8_term 138 = .ok (.dup, 1) := by decide +kernel
theorem dX8_term_139 : decode cX8_term 139 = .ok (.getfield 106, 3) := by decide +kernel
theorem dX8_term_142 : decode cX8_term 142 = .ok (.iconst 1, 1) := by decide +kernel
theorem dX8_term_143 : decode cX8_term 143 = .ok (.iadd, 1) := by decide +kernel
theorem dX8_term_144 : decode cX8_term 144 = .ok (.putfield 106, 3) := by decide +kernel
theorem dX8_term_147 : decode cX8_term 147 = .ok (.aload_n 0, 1) := by decide +kernel
theorem dX8_term_148 : decode cX8_term 148 = .ok (.iload_n 2, 1) := by decide +kernel
theorem dX8_term_149 : decode cX8_term 149 = .ok (.iconst 1, 1) := by decide +kernel
theorem dX8_term_150 : decode cX8_term 150 = .ok (.invokevirtual 187, 3) := by decide +kernel
theorem dX8_term_153 : decode cX8_term 153 = .ok (.ifCond .ne (-25), 3) := by decide +kernel
theorem dX8_term_156 : decode cX8_term 156 = .ok (.iconst 0, 1) := by decide +kernel
theorem dX8_term_157 : decode cX8_term 157 = .ok (.ireturn, 1) := by decide +kernel
theorem dX8_term_158 : decode cX8_term 158 = .ok (.aload_n 0, 1) := by decide +kernel
theorem dX8_term_159 : decode cX8_term 159 = .ok (.invokevirtual 157, 3) := by decide +kernel
theorem dX8_term_162 : decode cX8_term 162 = .ok (.bipush 41, 2) := by decide +kernel
theorem dX8_term_164 : decode cX8_term 164 = .ok (.if_icmp .eq 8, 3) := by decide +kernel
theorem dX8_term_167 : decode cX8_term 167 = .ok (.aload_n 0, 1) := by decide +kernel
theorem dX8_term_168 : decode cX8_term 168 = .ok (.invokevirtual 146, 3) := by decide +kernel
theorem dX8_term_171 : decode cX8_term 171 = .ok (.ireturn, 1) := by decide +kernel
theorem dX8_term_172 : decode cX8_term 172 = .ok (.aload_n 0, 1) := by decide +kernel
theorem dX8_term_173 : decode cX8_term 173 = .ok (.dup, 1) := by decide +kernel
theorem dX8_term_174 : decode cX8_term 174 = .ok (.getfield 143, 3) := by decide +kernel
theorem dX8_term_177 : decode cX8_term 177 = .ok (.iconst 1, 1) := by decide +kernel
theorem dX8_term_178 : decode cX8_term 178 = .ok (.isub, 1) := by decide +kernel
theorem dX8_term_179 : decode cX8_term 179 = .ok (.putfield 143, 3) := by decide +kernel
theorem dX8_term_182 : decode cX8_term 182 = .ok (.aload_n 0, 1) := by decide +kernel
theorem dX8_term_183 : decode cX8_term 183 = .ok (.dup, 1) := by decide +kernel
theorem dX8_term_184 : decode cX8_term 184 = .ok (.getfield 106, 3) := by decide +kernel
theorem dX8_term_187 : decode cX8_term 187 = .ok (.iconst 1, 1) := by decide +kernel
theorem dX8_term_188 : decode cX8_term 188 = .ok (.iadd, 1) := by decide +kernel
theorem dX8_term_189 : decode cX8_term 189 = .ok (.putfield 106, 3) := by decide +kernel
theorem dX8_term_192 : decode cX8_term 192 = .ok (.aload_n 0, 1) := by decide +kernel
theorem dX8_term_193 : decode cX8_term 193 = .ok (.getfield 109, 3) := by decide +kernel
theorem dX8_term_196 : decode cX8_term 196 = .ok (.getfield 154, 3) := by decide +kernel
theorem dX8_term_199 : decode cX8_term 199 = .ok (.iload_n 2, 1) := by decide +kernel
theorem dX8_term_200 : decode cX8_term 200 = .ok (.aload_n 0, 1) := by decide +kernel
theorem dX8_term_201 : decode cX8_term 201 = .ok (.getfield 106, 3) := by decide +kernel
theorem dX8_term_204 : decode cX8_term 204 = .ok (.iastore, 1) := by decide +kernel
theorem dX8_term_205 : decode cX8_term 205 = .ok (.iconst 1, 1) := by decide +kernel
theorem dX8_term_206 : decode cX8_term 206 = .ok (.ireturn, 1) := by decide +kernel
theorem dX8_read_0 : decode cX8_read 0 = .ok (.aload_n 0, 1) := by decide +kernel
theorem dX8_read_1 : decode cX8_read 1 = .ok (.aload_n 1, 1) := by decide +kernel
theorem dX8_read_2 : decode cX8_read 2 = .ok (.putfield 109, 3) := by decide +kernel
theorem dX8_read_5 : decode cX8_read 5 = .ok (.aload_n 0, 1) := by decide +kernel
theorem dX8_read_6 : decode cX8_read 6 = .ok (.iload 5, 2) := by decide +kernel
theorem dX8_read_8 : decode cX8_read 8 = .ok (.putfield 167, 3) := by decide +kernel
theorem dX8_read_11 : decode cX8_read 11 = .ok (.aload_n 1, 1) := by decide +kernel
theorem dX8_read_12 : decode cX8_read 12 = .ok (.iload 4, 2) := by decide +kernel
theorem dX8_read_14 : decode cX8_read 14 = .ok (.putfield 112, 3) := by decide +kernel
theorem dX8_read_17 : decode cX8_read 17 = .ok (.iconst 0, 1) := by decide +kernel
theorem dX8_read_18 : decode cX8_read 18 = .ok (.istore 6, 2) := by decide +kernel
theorem dX8_read_20 : decode cX8_read 20 = .ok (.iload 6, 2) := by decide +kernel
theorem dX8_read_22 : decode cX8_read 22 = .ok (.iload 4, 2) := by decide +kernel
theorem dX8_read_24 : decode cX8_read 24 = .ok (.if_icmp .ge 22, 3) := by decide +kernel
theorem dX8_read_27 : decode cX8_read 27 = .ok (.aload_n 1, 1) := by decide +kernel
theorem dX8_read_28 : decode cX8_read 28 = .ok (.getfield 113, 3) := by decide +kernel
theorem dX8_read_31 : decode cX8_read 31 = .ok (.iload 6, 2) := by decide +kernel
theorem dX8_read_33 : decode cX8_read 33 = .ok (.aload_n 2, 1) := by decide +kernel
theorem dX8_read_34 : decode cX8_read 34 = .ok (.iload_n 3, 1) := by decide +kernel
theorem dX8_read_35 : decode cX8_read 35 = .ok (.iload 6, 2) := by decide +kernel
theorem dX8_read_37 : decode cX8_read 37 = .ok (.iadd, 1) := by decide +kernel
theorem dX8_read_38 : decode cX8_read 38 = .ok (.baload, 1) := by decide +kernel
theorem dX8_read_39 : decode cX8_read 39 = .ok (.bastore, 1) := by decide +kernel
theorem dX8_read_40 : decode cX8_read 40 = .ok (.iinc 6 1, 3) := by decide +kernel
theorem dX8_read_43 : decode cX8_read 43 = .ok (.goto (-23), 3) := by decide +kernel
theorem dX8_read_46 : decode cX8_read 46 = .ok (.aload_n 1, 1) := by decide +kernel
theorem dX8_read_47 : decode cX8_read 47 = .ok (.iconst 0, 1) := by decide +kernel
theorem dX8_read_48 : decode cX8_read 48 = .ok (.putfield 122, 3) := by decide +kernel
theorem dX8_read_51 : decode cX8_read 51 = .ok (.aload_n 0, 1) := by decide +kernel
theorem dX8_read_52 : decode cX8_read 52 = .ok (.iconst 0, 1) := by decide +kernel
theorem dX8_read_53 : decode cX8_read 53 = .ok (.putfield 106, 3) := by decide +kernel
theorem dX8_read_56 : decode cX8_read 56 = .ok (.aload_n 0, 1) := by decide +kernel
theorem dX8_read_57 : decode cX8_read 57 = .ok (.iconst (-1), 1) := by decide +kernel
theorem dX8_read_58 : decode cX8_read 58 = .ok (.putfield 119, 3) := by decide +kernel
theorem dX8_read_61 : decode cX8_read 61 = .ok (.aload_n 0, 1) := by decide +kernel
theorem dX8_read_62 : decode cX8_read 62 = .ok (.iconst 0, 1) := by decide +kernel
theorem dX8_read_63 : decode cX8_read 63 = .ok (.putfield 143, 3) := by decide +kernel
theorem dX8_read_66 : decode cX8_read 66 = .ok (.aload_n 0, 1) := by decide +kernel
theorem dX8_read_67 : decode cX8_read 67 = .ok (.iconst 0, 1) := by decide +kernel
theorem dX8_read_68 : decode cX8_read 68 = .ok (.putfield 178, 3) := by decide +kernel
theorem dX8_read_71 : decode cX8_read 71 = .ok (.aload_n 0, 1) := by decide +kernel
theorem dX8_read_72 : decode cX8_read 72 = .ok (.iconst 0, 1) := by decide +kernel
theorem dX8_read_73 : decode cX8_read 73 = .ok (.putfield 181, 3) := by decide +kernel
theorem dX8_read_76 : decode cX8_read 76 = .ok (.aload_n 0, 1) := by decide +kernel
theorem dX8_read_77 : decode cX8_read 77 = .ok (.iconst 0, 1) := by decide +kernel
theorem dX8_read_78 : decode cX8_read 78 = .ok (.putfield 174, 3) := by decide +kernel
theorem dX8_read_81 : decode cX8_read 81 = .ok (.iconst 0, 1) := by decide +kernel
theorem dX8_read_82 : decode cX8_read 82 = .ok (.istore 6, 2) := by decide +kernel
theorem dX8_read_84 : decode cX8_read 84 = .ok (.iload 6, 2) := by decide +kernel
theorem dX8_read_86 : decode cX8_read 86 = .ok (.bipush 26, 2) := by decide +kernel
theorem dX8_read_88 : decode cX8_read 88 = .ok (.if_icmp .ge 17, 3) := by decide +kernel
theorem dX8_read_91 : decode cX8_read 91 = .ok (.aload_n 0, 1) := by decide +kernel
theorem dX8_read_92 : decode cX8_read 92 = .ok (.getfield 43, 3) := by decide +kernel
theorem dX8_read_95 : decode cX8_read 95 = .ok (.iload 6, 2) := by decide +kernel
theorem dX8_read_97 : decode cX8_read 97 = .ok (.iconst (-1), 1) := by decide +kernel
theorem dX8_read_98 : decode cX8_read 98 = .ok (.iastore, 1) := by decide +kernel
theorem dX8_read_99 : decode cX8_read 99 = .ok (.iinc 6 1, 3) := by decide +kernel
theorem dX8_read_102 : decode cX8_read 102 = .ok (.goto (-18), 3) := by decide +kernel
theorem dX8_read_105 : decode cX8_read 105 = .ok (.aload_n 0, 1) := by decide +kernel
theorem dX8_read_106 : decode cX8_read 106 = .ok (.iconst (-1), 1) := by decide +kernel
theorem dX8_read_107 : decode cX8_read 107 = .ok (.iconst 0, 1) := by decide +kernel
theorem dX8_read_108 : decode cX8_read 108 = .ok (.invokevirtual 187, 3) := by decide +kernel
theorem dX8_read_111 : decode cX8_read 111 = .ok (.istore 6, 2) := by decide +kernel
theorem dX8_read_113 : decode cX8_read 113 = .ok (.iload 6, 2) := by decide +kernel
theorem dX8_read_115 : decode cX8_read 115 = .ok (.ifCond .eq 16, 3) := by decide +kernel
theorem dX8_read_118 : decode cX8_read 118 = .ok (.aload_n 0, 1) := by decide +kernel
theorem dX8_read_119 : decode cX8_read 119 = .ok (.invokevirtual 157, 3) := by decide +kernel
theorem dX8_read_122 : decode cX8_read 122 = .ok (.iconst (-1), 1) := by decide +kernel
theorem dX8_read_123 : decode cX8_read 123 = .ok (.if_icmp .eq 8, 3) := by decide +kernel
theorem dX8_read_126 : decode cX8_read 126 = .ok (.aload_n 0, 1) := by decide +kernel
theorem dX8_read_127 : decode cX8_read 127 = .ok (.invokevirtual 146, 3) := by decide +kernel
theorem dX8_read_130 : decode cX8_read 130 = .ok (.pop, 1) := by decide +kernel
theorem dX8_read_131 : decode cX8_read 131 = .ok (.aload_n 0, 1) := by decide +kernel
theorem dX8_read_132 : decode cX8_read 132 = .ok (.getfield 119, 3) := by decide +kernel
theorem dX8_read_135 : decode cX8_read 135 = .ok (.ireturn, 1) := by decide +kernel
theorem dX8_bytesIn_0 : decode cX8_bytesIn 0 = .ok (.iconst 0, 1) := by decide +kernel
theorem dX8_bytesIn_1 : decode cX8_bytesIn 1 = .ok (.istore_n 1, 1) := by decide +kernel
theorem dX8_bytesIn_2 : decode cX8_bytesIn 2 = .ok (.bipush 24, 2) := by decide +kernel
theorem dX8_bytesIn_4 : decode cX8_bytesIn 4 = .ok (.istore_n 2, 1) := by decide +kernel
theorem dX8_bytesIn_5 : decode cX8_bytesIn 5 = .ok (.iload_n 2, 1) := by decide +kernel
theorem dX8_bytesIn_6 : decode cX8_bytesIn 6 = .ok (.ifCond .lt 27, 3) := by decide +kernel
theorem dX8_bytesIn_9 : decode cX8_bytesIn 9 = .ok (.iload_n 1, 1) := by decide +kernel
theorem dX8_bytesIn_10 : decode cX8_bytesIn 10 = .ok (.iload_n 0, 1) := by decide +kernel
theorem dX8_bytesIn_11 : decode cX8_bytesIn 11 = .ok (.iload_n 2, 1) := by decide +kernel
theorem dX8_bytesIn_12 : decode cX8_bytesIn 12 = .ok (.ishr, 1) := by decide +kernel
theorem dX8_bytesIn_13 : decode cX8_bytesIn 13 = .ok (.sipush 255, 3) := by decide +kernel
theorem dX8_bytesIn_16 : decode cX8_bytesIn 16 = .ok (.iand, 1) := by decide +kernel
theorem dX8_bytesIn_17 : decode cX8_bytesIn 17 = .ok (.ifCond .eq 7, 3) := by decide +kernel
theorem dX8_bytesIn_20 : decode cX8_bytesIn 20 = .ok (.iconst 1, 1) := by decide +kernel
theorem dX8_bytesIn_21 : decode cX8_bytesIn 21 = .ok (.goto 4, 3) := by decide +kernel
theorem dX8_bytesIn_24 : decode cX8_bytesIn 24 = .ok (.iconst 0, 1) := by decide +kernel
theorem dX8_bytesIn_25 : decode cX8_bytesIn 25 = .ok (.iadd, 1) := by decide +kernel
theorem dX8_bytesIn_26 : decode cX8_bytesIn 26 = .ok (.istore_n 1, 1) := by decide +kernel
theorem dX8_bytesIn_27 : decode cX8_bytesIn 27 = .ok (.iinc 2 (-8), 3) := by decide +kernel
theorem dX8_bytesIn_30 : decode cX8_bytesIn 30 = .ok (.goto (-25), 3) := by decide +kernel
theorem dX8_bytesIn_33 : decode cX8_bytesIn 33 = .ok (.iload_n 1, 1) := by decide +kernel
theorem dX8_bytesIn_34 : decode cX8_bytesIn 34 = .ok (.ireturn, 1) := by decide +kernel
theorem dX8_put4_0 : decode cX8_put4 0 = .ok (.bipush 24, 2) := by decide +kernel
theorem dX8_put4_2 : decode cX8_put4 2 = .ok (.istore_n 2, 1) := by decide +kernel
theorem dX8_put4_3 : decode cX8_put4 3 = .ok (.iload_n 2, 1) := by decide +kernel
theorem dX8_put4_4 : decode cX8_put4 4 = .ok (.ifCond .lt 45, 3) := by decide +kernel
theorem dX8_put4_7 : decode cX8_put4 7 = .ok (.iload_n 1, 1) := by decide +kernel
theorem dX8_put4_8 : decode cX8_put4 8 = .ok (.iload_n 2, 1) := by decide +kernel
theorem dX8_put4_9 : decode cX8_put4 9 = .ok (.ishr, 1) := by decide +kernel
theorem dX8_put4_10 : decode cX8_put4 10 = .ok (.sipush 255, 3) := by decide +kernel
theorem dX8_put4_13 : decode cX8_put4 13 = .ok (.iand, 1) := by decide +kernel
theorem dX8_put4_14 : decode cX8_put4 14 = .ok (.ifCond .ne 6, 3) := by decide +kernel
theorem dX8_put4_17 : decode cX8_put4 17 = .ok (.goto 26, 3) := by decide +kernel
theorem dX8_put4_20 : decode cX8_put4 20 = .ok (.aload_n 0, 1) := by decide +kernel
theorem dX8_put4_21 : decode cX8_put4 21 = .ok (.getfield 9, 3) := by decide +kernel
theorem dX8_put4_24 : decode cX8_put4 24 = .ok (.aload_n 0, 1) := by decide +kernel
theorem dX8_put4_25 : decode cX8_put4 25 = .ok (.getfield 95, 3) := by decide +kernel
theorem dX8_put4_28 : decode cX8_put4 28 = .ok (.iload_n 1, 1) := by decide +kernel
theorem dX8_put4_29 : decode cX8_put4 29 = .ok (.iload_n 2, 1) := by decide +kernel
theorem dX8_put4_30 : decode cX8_put4 30 = .ok (.ishr, 1) := by decide +kernel
theorem dX8_put4_31 : decode cX8_put4 31 = .ok (.i2b, 1) := by decide +kernel
theorem dX8_put4_32 : decode cX8_put4 32 = .ok (.bastore, 1) := by decide +kernel
theorem dX8_put4_33 : decode cX8_put4 33 = .ok (.aload_n 0, 1) := by decide +kernel
theorem dX8_put4_34 : decode cX8_put4 34 = .ok (.dup, 1) := by decide +kernel
theorem dX8_put4_35 : decode cX8_put4 35 = .ok (.getfield 95, 3) := by decide +kernel
theorem dX8_put4_38 : decode cX8_put4 38 = .ok (.iconst 1, 1) := by decide +kernel
theorem dX8_put4_39 : decode cX8_put4 39 = .ok (.iadd, 1) := by decide +kernel
theorem dX8_put4_40 : decode cX8_put4 40 = .ok (.putfield 95, 3) := by decide +kernel
theorem dX8_put4_43 : decode cX8_put4 43 = .ok (.iinc 2 (-8), 3) := by decide +kernel
theorem dX8_put4_46 : decode cX8_put4 46 = .ok (.goto (-43), 3) := by decide +kernel
theorem dX8_put4_49 : decode cX8_put4 49 = .ok (.return_, 1) := by decide +kernel
theorem dX8_feed_0 : decode cX8_feed 0 = .ok (.aload_n 0, 1) := by decide +kernel
theorem dX8_feed_1 : decode cX8_feed 1 = .ok (.iconst 0, 1) := by decide +kernel
theorem dX8_feed_2 : decode cX8_feed 2 = .ok (.putfield 103, 3) := by decide +kernel
theorem dX8_feed_5 : decode cX8_feed 5 = .ok (.aload_n 0, 1) := by decide +kernel
theorem dX8_feed_6 : decode cX8_feed 6 = .ok (.getfield 95, 3) := by decide +kernel
theorem dX8_feed_9 : decode cX8_feed 9 = .ok (.iload_n 1, 1) := by decide +kernel
theorem dX8_feed_10 : decode cX8_feed 10 = .ok (.invokestatic 194, 3) := by decide +kernel
theorem dX8_feed_13 : decode cX8_feed 13 = .ok (.iadd, 1) := by decide +kernel
theorem dX8_feed_14 : decode cX8_feed 14 = .ok (.iload_n 2, 1) := by decide +kernel
theorem dX8_feed_15 : decode cX8_feed 15 = .ok (.invokestatic 194, 3) := by decide +kernel
theorem dX8_feed_18 : decode cX8_feed 18 = .ok (.iadd, 1) := by decide +kernel
theorem dX8_feed_19 : decode cX8_feed 19 = .ok (.iload_n 3, 1) := by decide +kernel
theorem dX8_feed_20 : decode cX8_feed 20 = .ok (.invokestatic 194, 3) := by decide +kernel
theorem dX8_feed_23 : decode cX8_feed 23 = .ok (.iadd, 1) := by decide +kernel
theorem dX8_feed_24 : decode cX8_feed 24 = .ok (.iload 4, 2) := by decide +kernel
theorem dX8_feed_26 : decode cX8_feed 26 = .ok (.invokestatic 194, 3) := by decide +kernel
theorem dX8_feed_29 : decode cX8_feed 29 = .ok (.iadd, 1) := by decide +kernel
theorem dX8_feed_30 : decode cX8_feed 30 = .ok (.iload 5, 2) := by decide +kernel
theorem dX8_feed_32 : decode cX8_feed 32 = .ok (.invokestatic 194, 3) := by decide +kernel
theorem dX8_feed_35 : decode cX8_feed 35 = .ok (.iadd, 1) := by decide +kernel
theorem dX8_feed_36 : decode cX8_feed 36 = .ok (.sipush 240, 3) := by decide +kernel
theorem dX8_feed_39 : decode cX8_feed 39 = .ok (.if_icmp .le 5, 3) := by decide +kernel
theorem dX8_feed_42 : decode cX8_feed 42 = .ok (.iconst (-1), 1) := by decide +kernel
theorem dX8_feed_43 : decode cX8_feed 43 = .ok (.ireturn, 1) := by decide +kernel
theorem dX8_feed_44 : decode cX8_feed 44 = .ok (.aload_n 0, 1) := by decide +kernel
theorem dX8_feed_45 : decode cX8_feed 45 = .ok (.iload_n 1, 1) := by decide +kernel
theorem dX8_feed_46 : decode cX8_feed 46 = .ok (.invokevirtual 198, 3) := by decide +kernel
theorem dX8_feed_49 : decode cX8_feed 49 = .ok (.aload_n 0, 1) := by decide +kernel
theorem dX8_feed_50 : decode cX8_feed 50 = .ok (.iload_n 2, 1) := by decide +kernel
theorem dX8_feed_51 : decode cX8_feed 51 = .ok (.invokevirtual 198, 3) := by decide +kernel
theorem dX8_feed_54 : decode cX8_feed 54 = .ok (.aload_n 0, 1) := by decide +kernel
theorem dX8_feed_55 : decode cX8_feed 55 = .ok (.iload_n 3, 1) := by decide +kernel
theorem dX8_feed_56 : decode cX8_feed 56 = .ok (.invokevirtual 198, 3) := by decide +kernel
theorem dX8_feed_59 : decode cX8_feed 59 = .ok (.aload_n 0, 1) := by decide +kernel
theorem dX8_feed_60 : decode cX8_feed 60 = .ok (.iload 4, 2) := by decide +kernel
theorem dX8_feed_62 : decode cX8_feed 62 = .ok (.invokevirtual 198, 3) := by decide +kernel
theorem dX8_feed_65 : decode cX8_feed 65 = .ok (.aload_n 0, 1) := by decide +kernel
theorem dX8_feed_66 : decode cX8_feed 66 = .ok (.iload 5, 2) := by decide +kernel
theorem dX8_feed_68 : decode cX8_feed 68 = .ok (.invokevirtual 198, 3) := by decide +kernel
theorem dX8_feed_71 : decode cX8_feed 71 = .ok (.aload_n 0, 1) := by decide +kernel
theorem dX8_feed_72 : decode cX8_feed 72 = .ok (.getfield 95, 3) := by decide +kernel
theorem dX8_feed_75 : decode cX8_feed 75 = .ok (.ireturn, 1) := by decide +kernel
theorem dX8_end_0 : decode cX8_end 0 = .ok (.aload_n 0, 1) := by decide +kernel
theorem dX8_end_1 : decode cX8_end 1 = .ok (.iconst 0, 1) := by decide +kernel
theorem dX8_end_2 : decode cX8_end 2 = .ok (.putfield 103, 3) := by decide +kernel
theorem dX8_end_5 : decode cX8_end 5 = .ok (.iload_n 1, 1) := by decide +kernel
theorem dX8_end_6 : decode cX8_end 6 = .ok (.ifCond .lt 11, 3) := by decide +kernel
theorem dX8_end_9 : decode cX8_end 9 = .ok (.iload_n 1, 1) := by decide +kernel
theorem dX8_end_10 : decode cX8_end 10 = .ok (.aload_n 0, 1) := by decide +kernel
theorem dX8_end_11 : decode cX8_end 11 = .ok (.getfield 95, 3) := by decide +kernel
theorem dX8_end_14 : decode cX8_end 14 = .ok (.if_icmp .le 5, 3) := by decide +kernel
theorem dX8_end_17 : decode cX8_end 17 = .ok (.iconst 0, 1) := by decide +kernel
theorem dX8_end_18 : decode cX8_end 18 = .ok (.ireturn, 1) := by decide +kernel
theorem dX8_end_19 : decode cX8_end 19 = .ok (.aload_n 0, 1) := by decide +kernel
theorem dX8_end_20 : decode cX8_end 20 = .ok (.iload_n 1, 1) := by decide +kernel
theorem dX8_end_21 : decode cX8_end 21 = .ok (.putfield 95, 3) := by decide +kernel
theorem dX8_end_24 : decode cX8_end 24 = .ok (.iconst 1, 1) := by decide +kernel
theorem dX8_end_25 : decode cX8_end 25 = .ok (.ireturn, 1) := by decide +kernel
theorem dX8_fault_0 : decode cX8_fault 0 = .ok (.aload_n 0, 1) := by decide +kernel
theorem dX8_fault_1 : decode cX8_fault 1 = .ok (.iconst 0, 1) := by decide +kernel
theorem dX8_fault_2 : decode cX8_fault 2 = .ok (.putfield 103, 3) := by decide +kernel
theorem dX8_fault_5 : decode cX8_fault 5 = .ok (.iload_n 1, 1) := by decide +kernel
theorem dX8_fault_6 : decode cX8_fault 6 = .ok (.iconst 0, 1) := by decide +kernel
theorem dX8_fault_7 : decode cX8_fault 7 = .ok (.iconst 2, 1) := by decide +kernel
theorem dX8_fault_8 : decode cX8_fault 8 = .ok (.invokestatic 202, 3) := by decide +kernel
theorem dX8_fault_11 : decode cX8_fault 11 = .ok (.ifCond .eq 16, 3) := by decide +kernel
theorem dX8_fault_14 : decode cX8_fault 14 = .ok (.iload_n 1, 1) := by decide +kernel
theorem dX8_fault_15 : decode cX8_fault 15 = .ok (.ifCond .eq 15, 3) := by decide +kernel
theorem dX8_fault_18 : decode cX8_fault 18 = .ok (.aload_n 0, 1) := by decide +kernel
theorem dX8_fault_19 : decode cX8_fault 19 = .ok (.getfield 95, 3) := by decide +kernel
theorem dX8_fault_22 : decode cX8_fault 22 = .ok (.bipush 80, 2) := by decide +kernel
theorem dX8_fault_24 : decode cX8_fault 24 = .ok (.if_icmp .le 6, 3) := by decide +kernel
theorem dX8_fault_27 : decode cX8_fault 27 = .ok (.bipush (-2), 2) := by decide +kernel
theorem dX8_fault_29 : decode cX8_fault 29 = .ok (.ireturn, 1) := by decide +kernel
theorem dX8_fault_30 : decode cX8_fault 30 = .ok (.aload_n 0, 1) := by decide +kernel
theorem dX8_fault_31 : decode cX8_fault 31 = .ok (.aload_n 0, 1) := by decide +kernel
theorem dX8_fault_32 : decode cX8_fault 32 = .ok (.getfield 26, 3) := by decide +kernel
theorem dX8_fault_35 : decode cX8_fault 35 = .ok (.aload_n 0, 1) := by decide +kernel
theorem dX8_fault_36 : decode cX8_fault 36 = .ok (.getfield 9, 3) := by decide +kernel
theorem dX8_fault_39 : decode cX8_fault 39 = .ok (.iconst 0, 1) := by decide +kernel
theorem dX8_fault_40 : decode cX8_fault 40 = .ok (.aload_n 0, 1) := by decide +kernel
theorem dX8_fault_41 : decode cX8_fault 41 = .ok (.getfield 95, 3) := by decide +kernel
theorem dX8_fault_44 : decode cX8_fault 44 = .ok (.iload_n 1, 1) := by decide +kernel
theorem dX8_fault_45 : decode cX8_fault 45 = .ok (.invokevirtual 206, 3) := by decide +kernel
theorem dX8_fault_48 : decode cX8_fault 48 = .ok (.ireturn, 1) := by decide +kernel
theorem dX8_take_0 : decode cX8_take 0 = .ok (.aload_n 0, 1) := by decide +kernel
theorem dX8_take_1 : decode cX8_take 1 = .ok (.iload_n 1, 1) := by decide +kernel
theorem dX8_take_2 : decode cX8_take 2 = .ok (.invokevirtual 210, 3) := by decide +kernel
theorem dX8_take_5 : decode cX8_take 5 = .ok (.iconst (-1), 1) := by decide +kernel
theorem dX8_take_6 : decode cX8_take 6 = .ok (.if_icmp .eq 5, 3) := by decide +kernel
theorem dX8_take_9 : decode cX8_take 9 = .ok (.iconst 0, 1) := by decide +kernel
theorem dX8_take_10 : decode cX8_take 10 = .ok (.ireturn, 1) := by decide +kernel
theorem dX8_take_11 : decode cX8_take 11 = .ok (.aload_n 0, 1) := by decide +kernel
theorem dX8_take_12 : decode cX8_take 12 = .ok (.iload_n 1, 1) := by decide +kernel
theorem dX8_take_13 : decode cX8_take 13 = .ok (.ifCond .ne 10, 3) := by decide +kernel
theorem dX8_take_16 : decode cX8_take 16 = .ok (.aload_n 0, 1) := by decide +kernel
theorem dX8_take_17 : decode cX8_take 17 = .ok (.getfield 16, 3) := by decide +kernel
theorem dX8_take_20 : decode cX8_take 20 = .ok (.goto 19, 3) := by decide +kernel
theorem dX8_take_23 : decode cX8_take 23 = .ok (.iload_n 1, 1) := by decide +kernel
theorem dX8_take_24 : decode cX8_take 24 = .ok (.iconst 1, 1) := by decide +kernel
theorem dX8_take_25 : decode cX8_take 25 = .ok (.if_icmp .ne 10, 3) := by decide +kernel
theorem dX8_take_28 : decode cX8_take 28 = .ok (.aload_n 0, 1) := by decide +kernel
theorem dX8_take_29 : decode cX8_take 29 = .ok (.getfield 20, 3) := by decide +kernel
theorem dX8_take_32 : decode cX8_take 32 = .ok (.goto 7, 3) := by decide +kernel
theorem dX8_take_35 : decode cX8_take 35 = .ok (.aload_n 0, 1) := by decide +kernel
theorem dX8_take_36 : decode cX8_take 36 = .ok (.getfield 23, 3) := by decide +kernel
theorem dX8_take_39 : decode cX8_take 39 = .ok (.aload_n 0, 1) := by decide +kernel
theorem dX8_take_40 : decode cX8_take 40 = .ok (.getfield 9, 3) := by decide +kernel
theorem dX8_take_43 : decode cX8_take 43 = .ok (.iconst 0, 1) := by decide +kernel
theorem dX8_take_44 : decode cX8_take 44 = .ok (.aload_n 0, 1) := by decide +kernel
theorem dX8_take_45 : decode cX8_take 45 = .ok (.getfield 95, 3) := by decide +kernel
theorem dX8_take_48 : decode cX8_take 48 = .ok (.iload_n 1, 1) := by decide +kernel
theorem dX8_take_49 : decode cX8_take 49 = .ok (.invokevirtual 206, 3) := by decide +kernel
theorem dX8_take_52 : decode cX8_take 52 = .ok (.istore_n 2, 1) := by decide +kernel
theorem dX8_take_53 : decode cX8_take 53 = .ok (.aload_n 0, 1) := by decide +kernel
theorem dX8_take_54 : decode cX8_take 54 = .ok (.iconst 0, 1) := by decide +kernel
theorem dX8_take_55 : decode cX8_take 55 = .ok (.putfield 95, 3) := by decide +kernel
theorem dX8_take_58 : decode cX8_take 58 = .ok (.iload_n 1, 1) := by decide +kernel
theorem dX8_take_59 : decode cX8_take 59 = .ok (.ifCond .ne 8, 3) := by decide +kernel
theorem dX8_take_62 : decode cX8_take 62 = .ok (.aload_n 0, 1) := by decide +kernel
theorem dX8_take_63 : decode cX8_take 63 = .ok (.iconst 0, 1) := by decide +kernel
theorem dX8_take_64 : decode cX8_take 64 = .ok (.putfield 212, 3) := by decide +kernel
theorem dX8_take_67 : decode cX8_take 67 = .ok (.iload_n 1, 1) := by decide +kernel
theorem dX8_take_68 : decode cX8_take 68 = .ok (.iconst 1, 1) := by decide +kernel
theorem dX8_take_69 : decode cX8_take 69 = .ok (.if_icmp .ne 27, 3) := by decide +kernel
theorem dX8_take_72 : decode cX8_take 72 = .ok (.iconst 0, 1) := by decide +kernel
theorem dX8_take_73 : decode cX8_take 73 = .ok (.istore_n 3, 1) := by decide +kernel
theorem dX8_take_74 : decode cX8_take 74 = .ok (.iload_n 3, 1) := by decide +kernel
theorem dX8_take_75 : decode cX8_take 75 = .ok (.aload_n 0, 1) := by decide +kernel
theorem dX8_take_76 : decode cX8_take 76 = .ok (.getfield 39, 3) := by decide +kernel
theorem dX8_take_79 : decode cX8_take 79 = .ok (.arraylength, 1) := by decide +kernel
theorem dX8_take_80 : decode cX8_take 80 = .ok (.if_icmp .ge 16, 3) := by decide +kernel
theorem dX8_take_83 : decode cX8_take 83 = .ok (.aload_n 0, 1) := by decide +kernel
theorem dX8_take_84 : decode cX8_take 84 = .ok (.getfield 39, 3) := by decide +kernel
theorem dX8_take_87 : decode cX8_take 87 = .ok (.iload_n 3, 1) := by decide +kernel
theorem dX8_take_88 : decode cX8_take 88 = .ok (.iconst 0, 1) := by decide +kernel
theorem dX8_take_89 : decode cX8_take 89 = .ok (.bastore, 1) := by decide +kernel
theorem dX8_take_90 : decode cX8_take 90 = .ok (.iinc 3 1, 3) := by decide +kernel
theorem dX8_take_93 : decode cX8_take 93 = .ok (.goto (-19), 3) := by decide +kernel
theorem dX8_take_96 : decode cX8_take 96 = .ok (.iconst 1, 1) := by decide +kernel
theorem dX8_take_97 : decode cX8_take 97 = .ok (.ireturn, 1) := by decide +kernel
theorem dX8_differ_0 : decode cX8_differ 0 = .ok (.aload_n 0, 1) := by decide +kernel
theorem dX8_differ_1 : decode cX8_differ 1 = .ok (.iconst 0, 1) := by decide +kernel
theorem dX8_differ_2 : decode cX8_differ 2 = .ok (.putfield 103, 3) := by decide +kernel
theorem dX8_differ_5 : decode cX8_differ 5 = .ok (.iload_n 1, 1) := by decide +kernel
theorem dX8_differ_6 : decode cX8_differ 6 = .ok (.iconst 0, 1) := by decide +kernel
theorem dX8_differ_7 : decode cX8_differ 7 = .ok (.bipush 25, 2) := by decide +kernel
theorem dX8_differ_9 : decode cX8_differ 9 = .ok (.invokestatic 202, 3) := by decide +kernel
theorem dX8_differ_12 : decode cX8_differ 12 = .ok (.ifCond .eq 33, 3) := by decide +kernel
theorem dX8_differ_15 : decode cX8_differ 15 = .ok (.iload_n 2, 1) := by decide +kernel
theorem dX8_differ_16 : decode cX8_differ 16 = .ok (.iconst 0, 1) := by decide +kernel
theorem dX8_differ_17 : decode cX8_differ 17 = .ok (.bipush 25, 2) := by decide +kernel
theorem dX8_differ_19 : decode cX8_differ 19 = .ok (.invokestatic 202, 3) := by decide +kernel
theorem dX8_differ_22 : decode cX8_differ 22 = .ok (.ifCond .eq 23, 3) := by decide +kernel
theorem dX8_differ_25 : decode cX8_differ 25 = .ok (.iload_n 1, 1) := by decide +kernel
theorem dX8_differ_26 : decode cX8_differ 26 = .ok (.iload_n 2, 1) := by decide +kernel
theorem dX8_differ_27 : decode cX8_differ 27 = .ok (.if_icmp .eq 18, 3) := by decide +kernel
theorem dX8_differ_30 : decode cX8_differ 30 = .ok (.aload_n 0, 1) := by decide +kernel
theorem dX8_differ_31 : decode cX8_differ 31 = .ok (.getfield 39, 3) := by decide +kernel
theorem dX8_differ_34 : decode cX8_differ 34 = .ok (.bipush 26, 2) := by decide +kernel
theorem dX8_differ_36 : decode cX8_differ 36 = .ok (.iload_n 1, 1) := by decide +kernel
theorem dX8_differ_37 : decode cX8_differ 37 = .ok (.imul, 1) := by decide +kernel
theorem dX8_differ_38 : decode cX8_differ 38 = .ok (.iload_n 2, 1) := by decide +kernel
theorem dX8_differ_39 : decode cX8_differ 39 = .ok (.iadd, 1) := by decide +kernel
theorem dX8_differ_40 : decode cX8_differ 40 = .ok (.baload, 1) := by decide +kernel
theorem dX8_differ_41 : decode cX8_differ 41 = .ok (.iload_n 3, 1) := by decide +kernel
theorem dX8_differ_42 : decode cX8_differ 42 = .ok (.if_icmp .ne 5, 3) := by decide +kernel
theorem dX8_differ_45 : decode cX8_differ 45 = .ok (.iconst 0, 1) := by decide +kernel
theorem dX8_differ_46 : decode cX8_differ 46 = .ok (.ireturn, 1) := by decide +kernel
theorem dX8_differ_47 : decode cX8_differ 47 = .ok (.aload_n 0, 1) := by decide +kernel
theorem dX8_differ_48 : decode cX8_differ 48 = .ok (.getfield 39, 3) := by decide +kernel
theorem dX8_differ_51 : decode cX8_differ 51 = .ok (.bipush 26, 2) := by decide +kernel
theorem dX8_differ_53 : decode cX8_differ 53 = .ok (.iload_n 1, 1) := by decide +kernel
theorem dX8_differ_54 : decode cX8_differ 54 = .ok (.imul, 1) := by decide +kernel
theorem dX8_differ_55 : decode cX8_differ 55 = .ok (.iload_n 2, 1) := by decide +kernel
theorem dX8_differ_56 : decode cX8_differ 56 = .ok (.iadd, 1) := by decide +kernel
theorem dX8_differ_57 : decode cX8_differ 57 = .ok (.iload_n 3, 1) := by decide +kernel
theorem dX8_differ_58 : decode cX8_differ 58 = .ok (.bastore, 1) := by decide +kernel
theorem dX8_differ_59 : decode cX8_differ 59 = .ok (.aload_n 0, 1) := by decide +kernel
theorem dX8_differ_60 : decode cX8_differ 60 = .ok (.getfield 39, 3) := by decide +kernel
theorem dX8_differ_63 : decode cX8_differ 63 = .ok (.bipush 26, 2) := by decide +kernel
theorem dX8_differ_65 : decode cX8_differ 65 = .ok (.iload_n 2, 1) := by decide +kernel
theorem dX8_differ_66 : decode cX8_differ 66 = .ok (.imul, 1) := by decide +kernel
theorem dX8_differ_67 : decode cX8_differ 67 = .ok (.iload_n 1, 1) := by decide +kernel
theorem dX8_differ_68 : decode cX8_differ 68 = .ok (.iadd, 1) := by decide +kernel
theorem dX8_differ_69 : decode cX8_differ 69 = .ok (.iload_n 3, 1) := by decide +kernel
theorem dX8_differ_70 : decode cX8_differ 70 = .ok (.bastore, 1) := by decide +kernel
theorem dX8_differ_71 : decode cX8_differ 71 = .ok (.iconst 1, 1) := by decide +kernel
theorem dX8_differ_72 : decode cX8_differ 72 = .ok (.ireturn, 1) := by decide +kernel
theorem dX8_isNode_0 : decode cX8_isNode 0 = .ok (.iload_n 1, 1) := by decide +kernel
theorem dX8_isNode_1 : decode cX8_isNode 1 = .ok (.ifCond .lt 18, 3) := by decide +kernel
theorem dX8_isNode_4 : decode cX8_isNode 4 = .ok (.iload_n 1, 1) := by decide +kernel
theorem dX8_isNode_5 : decode cX8_isNode 5 = .ok (.aload_n 0, 1) := by decide +kernel
theorem dX8_isNode_6 : decode cX8_isNode 6 = .ok (.getfield 16, 3) := by decide +kernel
theorem dX8_isNode_9 : decode cX8_isNode 9 = .ok (.getfield 122, 3) := by decide +kernel
theorem dX8_isNode_12 : decode cX8_isNode 12 = .ok (.if_icmp .ge 7, 3) := by decide +kernel
theorem dX8_isNode_15 : decode cX8_isNode 15 = .ok (.iconst 1, 1) := by decide +kernel
theorem dX8_isNode_16 : decode cX8_isNode 16 = .ok (.goto 4, 3) := by decide +kernel
theorem dX8_isNode_19 : decode cX8_isNode 19 = .ok (.iconst 0, 1) := by decide +kernel
theorem dX8_isNode_20 : decode cX8_isNode 20 = .ok (.ireturn, 1) := by decide +kernel
theorem dX8_nodes_0 : decode cX8_nodes 0 = .ok (.aload_n 0, 1) := by decide +kernel
theorem dX8_nodes_1 : decode cX8_nodes 1 = .ok (.iconst 0, 1) := by decide +kernel
theorem dX8_nodes_2 : decode cX8_nodes 2 = .ok (.putfield 103, 3) := by decide +kernel
theorem dX8_nodes_5 : decode cX8_nodes 5 = .ok (.aload_n 0, 1) := by decide +kernel
theorem dX8_nodes_6 : decode cX8_nodes 6 = .ok (.getfield 16, 3) := by decide +kernel
theorem dX8_nodes_9 : decode cX8_nodes 9 = .ok (.getfield 122, 3) := by decide +kernel
theorem dX8_nodes_12 : decode cX8_nodes 12 = .ok (.ireturn, 1) := by decide +kernel
theorem dX8_isAtomAlike_0 : decode cX8_isAtomAlike 0 = .ok (.aload_n 1, 1) := by decide +kernel
theorem dX8_isAtomAlike_1 : decode cX8_isAtomAlike 1 = .ok (.getfield 191, 3) := by decide +kernel
theorem dX8_isAtomAlike_4 : decode cX8_isAtomAlike 4 = .ok (.iload_n 2, 1) := by decide +kernel
theorem dX8_isAtomAlike_5 : decode cX8_isAtomAlike 5 = .ok (.iaload, 1) := by decide +kernel
theorem dX8_isAtomAlike_6 : decode cX8_isAtomAlike 6 = .ok (.aload_n 1, 1) := by decide +kernel
theorem dX8_isAtomAlike_7 : decode cX8_isAtomAlike 7 = .ok (.getfield 128, 3) := by decide +kernel
theorem dX8_isAtomAlike_10 : decode cX8_isAtomAlike 10 = .ok (.iload_n 2, 1) := by decide +kernel
theorem dX8_isAtomAlike_11 : decode cX8_isAtomAlike 11 = .ok (.iaload, 1) := by decide +kernel
theorem dX8_isAtomAlike_12 : decode cX8_isAtomAlike 12 = .ok (.isub, 1) := by decide +kernel
theorem dX8_isAtomAlike_13 : decode cX8_isAtomAlike 13 = .ok (.istore 5, 2) := by decide +kernel
theorem dX8_isAtomAlike_15 : decode cX8_isAtomAlike 15 = .ok (.iload 5, 2) := by decide +kernel
theorem dX8_isAtomAlike_17 : decode cX8_isAtomAlike 17 = .ok (.aload_n 3, 1) := by decide +kernel
theorem dX8_isAtomAlike_18 : decode cX8_isAtomAlike 18 = .ok (.getfield 191, 3) := by decide +kernel
theorem dX8_isAtomAlike_21 : decode cX8_isAtomAlike 21 = .ok (.iload 4, 2) := by decide +kernel
theorem dX8_isAtomAlike_23 : decode cX8_isAtomAlike 23 = .ok (.iaload, 1) := by decide +kernel
theorem dX8_isAtomAlike_24 : decode cX8_isAtomAlike 24 = .ok (.aload_n 3, 1) := by decide +kernel
theorem dX8_isAtomAlike_25 : decode cX8_isAtomAlike 25 = .ok (.getfield 128, 3) := by decide +kernel
theorem dX8_isAtomAlike_28 : decode cX8_isAtomAlike 28 = .ok (.iload 4, 2) := by decide +kernel
theorem dX8_isAtomAlike_30 : decode cX8_isAtomAlike 30 = .ok (.iaload, 1) := by decide +kernel
theorem dX8_isAtomAlike_31 : decode cX8_isAtomAlike 31 = .ok (.isub, 1) := by decide +kernel
theorem dX8_isAtomAlike_32 : decode cX8_isAtomAlike 32 = .ok (.if_icmp .ne 19, 3) := by decide +kernel
theorem dX8_isAtomAlike_35 : decode cX8_isAtomAlike 35 = .ok (.aload_n 1, 1) := by decide +kernel
theorem dX8_isAtomAlike_36 : decode cX8_isAtomAlike 36 = .ok (.getfield 137, 3) := by decide +kernel
theorem dX8_isAtomAlike_39 : decode cX8_isAtomAlike 39 = .ok (.iload_n 2, 1) := by decide +kernel
theorem dX8_isAtomAlike_40 : decode cX8_isAtomAlike 40 = .ok (.baload, 1) := by decide +kernel
theorem dX8_isAtomAlike_41 : decode cX8_isAtomAlike 41 = .ok (.aload_n 3, 1) := by decide +kernel
theorem dX8_isAtomAlike_42 : decode cX8_isAtomAlike 42 = .ok (.getfield 137, 3) := by decide +kernel
theorem dX8_isAtomAlike_45 : decode cX8_isAtomAlike 45 = .ok (.iload 4, 2) := by decide +kernel
theorem dX8_isAtomAlike_47 : decode cX8_isAtomAlike 47 = .ok (.baload, 1) := by decide +kernel
theorem dX8_isAtomAlike_48 : decode cX8_isAtomAlike 48 = .ok (.if_icmp .eq 5, 3) := by decide +kernel
theorem dX8_isAtomAlike_51 : decode cX8_isAtomAlike 51 = .ok (.iconst 0, 1) := by decide +kernel
theorem dX8_isAtomAlike_52 : decode cX8_isAtomAlike 52 = .ok (.ireturn, 1) := by decide +kernel
theorem dX8_isAtomAlike_53 : decode cX8_isAtomAlike 53 = .ok (.iconst 1, 1) := by decide +kernel
theorem dX8_isAtomAlike_54 : decode cX8_isAtomAlike 54 = .ok (.istore 6, 2) := by decide +kernel
theorem dX8_isAtomAlike_56 : decode cX8_isAtomAlike 56 = .ok (.iconst 0, 1) := by decide +kernel
theorem dX8_isAtomAlike_57 : decode cX8_isAtomAlike 57 = .ok (.istore 7, 2) := by decide +kernel
theorem dX8_isAtomAlike_59 : decode cX8_isAtomAlike 59 = .ok (.iload 7, 2) := by decide +kernel
theorem dX8_isAtomAlike_61 : decode cX8_isAtomAlike 61 = .ok (.iload 5, 2) := by decide +kernel
theorem dX8_isAtomAlike_63 : decode cX8_isAtomAlike 63 = .ok (.if_icmp .ge 53, 3) := by decide +kernel
theorem dX8_isAtomAlike_66 : decode cX8_isAtomAlike 66 = .ok (.iload 6, 2) := by decide +kernel
theorem dX8_isAtomAlike_68 : decode cX8_isAtomAlike 68 = .ok (.ifCond .eq 39, 3) := by decide +kernel
theorem dX8_isAtomAlike_71 : decode cX8_isAtomAlike 71 = .ok (.aload_n 1, 1) := by decide +kernel
theorem dX8_isAtomAlike_72 : decode cX8_isAtomAlike 72 = .ok (.getfield 113, 3) := by decide +kernel
theorem dX8_isAtomAlike_75 : decode cX8_isAtomAlike 75 = .ok (.aload_n 1, 1) := by decide +kernel
theorem dX8_isAtomAlike_76 : decode cX8_isAtomAlike 76 = .ok (.getfield 128, 3) := by decide +kernel
theorem dX8_isAtomAlike_79 : decode cX8_isAtomAlike 79 = .ok (.iload_n 2, 1) := by decide +kernel
theorem dX8_isAtomAlike_80 : decode cX8_isAtomAlike 80 = .ok (.iaload, 1) := by decide +kernel
theorem dX8_isAtomAlike_81 : decode cX8_isAtomAlike 81 = .ok (.iload 7, 2) := by decide +kernel
theorem dX8_isAtomAlike_83 : decode cX8_isAtomAlike 83 = .ok (.iadd, 1) := by decide +kernel
theorem dX8_isAtomAlike_84 : decode cX8_isAtomAlike 84 = .ok (.baload, 1) := by decide +kernel
theorem dX8_isAtomAlike_85 : decode cX8_isAtomAlike 85 = .ok (.aload_n 3, 1) := by decide +kernel
theorem dX8_isAtomAlike_86 : decode cX8_isAtomAlike 86 = .ok (.getfield 113, 3) := by decide +kernel
theorem dX8_isAtomAlike_89 : decode cX8_isAtomAlike 89 = .ok (.aload_n 3, 1) := by decide +kernel
theorem dX8_isAtomAlike_90 : decode cX8_isAtomAlike 90 = .ok (.getfield 128, 3) := by decide +kernel
theorem dX8_isAtomAlike_93 : decode cX8_isAtomAlike 93 = .ok (.iload 4, 2) := by decide +kernel
theorem dX8_isAtomAlike_95 : decode cX8_isAtomAlike 95 = .ok (.iaload, 1) := by decide +kernel
theorem dX8_isAtomAlike_96 : decode cX8_isAtomAlike 96 = .ok (.iload 7, 2) := by decide +kernel
theorem dX8_isAtomAlike_98 : decode cX8_isAtomAlike 98 = .ok (.iadd, 1) := by decide +kernel
theorem dX8_isAtomAlike_99 : decode cX8_isAtomAlike 99 = .ok (.baload, 1) := by decide +kernel
theorem dX8_isAtomAlike_100 : decode cX8_isAtomAlike 100 = .ok (.if_icmp .ne 7, 3) := by decide +kernel
theorem dX8_isAtomAlike_103 : decode cX8_isAtomAlike 103 = .ok (.iconst 1, 1) := by decide +kernel
theorem dX8_isAtomAlike_104 : decode cX8_isAtomAlike 104 = .ok (.goto 4, 3) := by decide +kernel
theorem dX8_isAtomAlike_107 : decode cX8_isAtomAlike 107 = .ok (.iconst 0, 1) := by decide +kernel
theorem dX8_isAtomAlike_108 : decode cX8_isAtomAlike 108 = .ok (.istore 6, 2) := by decide +kernel
theorem dX8_isAtomAlike_110 : decode cX8_isAtomAlike 110 = .ok (.iinc 7 1, 3) := by decide +kernel
theorem dX8_isAtomAlike_113 : decode cX8_isAtomAlike 113 = .ok (.goto (-54), 3) := by decide +kernel
theorem dX8_isAtomAlike_116 : decode cX8_isAtomAlike 116 = .ok (.iload 6, 2) := by decide +kernel
theorem dX8_isAtomAlike_118 : decode cX8_isAtomAlike 118 = .ok (.ireturn, 1) := by decide +kernel
theorem dX8_areAlike_0 : decode cX8_areAlike 0 = .ok (.aload_n 0, 1) := by decide +kernel
theorem dX8_areAlike_1 : decode cX8_areAlike 1 = .ok (.aload_n 0, 1) := by decide +kernel
theorem dX8_areAlike_2 : decode cX8_areAlike 2 = .ok (.getfield 16, 3) := by decide +kernel
theorem dX8_areAlike_5 : decode cX8_areAlike 5 = .ok (.iload_n 1, 1) := by decide +kernel
theorem dX8_areAlike_6 : decode cX8_areAlike 6 = .ok (.aload_n 0, 1) := by decide +kernel
theorem dX8_areAlike_7 : decode cX8_areAlike 7 = .ok (.getfield 16, 3) := by decide +kernel
theorem dX8_areAlike_10 : decode cX8_areAlike 10 = .ok (.iload_n 2, 1) := by decide +kernel
theorem dX8_areAlike_11 : decode cX8_areAlike 11 = .ok (.invokevirtual 215, 3) := by decide +kernel
theorem dX8_areAlike_14 : decode cX8_areAlike 14 = .ok (.ifCond .eq 24, 3) := by decide +kernel
theorem dX8_areAlike_17 : decode cX8_areAlike 17 = .ok (.aload_n 0, 1) := by decide +kernel
theorem dX8_areAlike_18 : decode cX8_areAlike 18 = .ok (.getfield 16, 3) := by decide +kernel
theorem dX8_areAlike_21 : decode cX8_areAlike 21 = .ok (.getfield 134, 3) := by decide +kernel
theorem dX8_areAlike_24 : decode cX8_areAlike 24 = .ok (.iload_n 1, 1) := by decide +kernel
theorem dX8_areAlike_25 : decode cX8_areAlike 25 = .ok (.iaload, 1) := by decide +kernel
theorem dX8_areAlike_26 : decode cX8_areAlike 26 = .ok (.aload_n 0, 1) := by decide +kernel
theorem dX8_areAlike_27 : decode cX8_areAlike 27 = .ok (.getfield 16, 3) := by decide +kernel
theorem dX8_areAlike_30 : decode cX8_areAlike 30 = .ok (.getfield 134, 3) := by decide +kernel
theorem dX8_areAlike_33 : decode cX8_areAlike 33 = .ok (.iload_n 2, 1) := by decide +kernel
theorem dX8_areAlike_34 : decode cX8_areAlike 34 = .ok (.iaload, 1) := by decide +kernel
theorem dX8_areAlike_35 : decode cX8_areAlike 35 = .ok (.if_icmp .eq 5, 3) := by decide +kernel
theorem dX8_areAlike_38 : decode cX8_areAlike 38 = .ok (.iconst 0, 1) := by decide +kernel
theorem dX8_areAlike_39 : decode cX8_areAlike 39 = .ok (.ireturn, 1) := by decide +kernel
theorem dX8_areAlike_40 : decode cX8_areAlike 40 = .ok (.iconst 1, 1) := by decide +kernel
theorem dX8_areAlike_41 : decode cX8_areAlike 41 = .ok (.istore_n 3, 1) := by decide +kernel
theorem dX8_areAlike_42 : decode cX8_areAlike 42 = .ok (.iconst 0, 1) := by decide +kernel
theorem dX8_areAlike_43 : decode cX8_areAlike 43 = .ok (.istore 4, 2) := by decide +kernel
theorem dX8_areAlike_45 : decode cX8_areAlike 45 = .ok (.iload 4, 2) := by decide +kernel
theorem dX8_areAlike_47 : decode cX8_areAlike 47 = .ok (.aload_n 0, 1) := by decide +kernel
theorem dX8_areAlike_48 : decode cX8_areAlike 48 = .ok (.getfield 16, 3) := by decide +kernel
theorem dX8_areAlike_51 : decode cX8_areAlike 51 = .ok (.getfield 134, 3) := by decide +kernel
theorem dX8_areAlike_54 : decode cX8_areAlike 54 = .ok (.iload_n 1, 1) := by decide +kernel
theorem dX8_areAlike_55 : decode cX8_areAlike 55 = .ok (.iaload, 1) := by decide +kernel
theorem dX8_areAlike_56 : decode cX8_areAlike 56 = .ok (.if_icmp .ge 38, 3) := by decide +kernel
theorem dX8_areAlike_59 : decode cX8_areAlike 59 = .ok (.iload_n 3, 1) := by decide +kernel
theorem dX8_areAlike_60 : decode cX8_areAlike 60 = .ok (.ifCond .eq 34, 3) := by decide +kernel
theorem dX8_areAlike_63 : decode cX8_areAlike 63 = .ok (.aload_n 0, 1) := by decide +kernel
theorem dX8_areAlike_64 : decode cX8_areAlike 64 = .ok (.aload_n 0, 1) := by decide +kernel
theorem dX8_areAlike_65 : decode cX8_areAlike 65 = .ok (.getfield 16, 3) := by decide +kernel
theorem dX8_areAlike_68 : decode cX8_areAlike 68 = .ok (.iload_n 1, 1) := by decide +kernel
theorem dX8_areAlike_69 : decode cX8_areAlike 69 = .ok (.iload 4, 2) := by decide +kernel
theorem dX8_areAlike_71 : decode cX8_areAlike 71 = .ok (.invokevirtual 219, 3) := by decide +kernel
theorem dX8_areAlike_74 : decode cX8_areAlike 74 = .ok (.aload_n 0, 1) := by decide +kernel
theorem dX8_areAlike_75 : decode cX8_areAlike 75 = .ok (.getfield 16, 3) := by decide +kernel
theorem dX8_areAlike_78 : decode cX8_areAlike 78 = .ok (.iload_n 2, 1) := by decide +kernel
theorem dX8_areAlike_79 : decode cX8_areAlike 79 = .ok (.iload 4, 2) := by decide +kernel
theorem dX8_areAlike_81 : decode cX8_areAlike 81 = .ok (.invokevirtual 219, 3) := by decide +kernel
theorem dX8_areAlike_84 : decode cX8_areAlike 84 = .ok (.invokevirtual 221, 3) := by decide +kernel
theorem dX8_areAlike_87 : decode cX8_areAlike 87 = .ok (.istore_n 3, 1) := by decide +kernel
theorem dX8_areAlike_88 : decode cX8_areAlike 88 = .ok (.iinc 4 1, 3) := by decide +kernel
theorem dX8_areAlike_91 : decode cX8_areAlike 91 = .ok (.goto (-46), 3) := by decide +kernel
theorem dX8_areAlike_94 : decode cX8_areAlike 94 = .ok (.iload_n 3, 1) := by decide +kernel
theorem dX8_areAlike_95 : decode cX8_areAlike 95 = .ok (.ireturn, 1) := by decide +kernel
theorem dX8_alike_0 : decode cX8_alike 0 = .ok (.aload_n 0, 1) := by decide +kernel
theorem dX8_alike_1 : decode cX8_alike 1 = .ok (.iconst 0, 1) := by decide +kernel
theorem dX8_alike_2 : decode cX8_alike 2 = .ok (.putfield 103, 3) := by decide +kernel
theorem dX8_alike_5 : decode cX8_alike 5 = .ok (.aload_n 0, 1) := by decide +kernel
theorem dX8_alike_6 : decode cX8_alike 6 = .ok (.iload_n 1, 1) := by decide +kernel
theorem dX8_alike_7 : decode cX8_alike 7 = .ok (.invokevirtual 224, 3) := by decide +kernel
theorem dX8_alike_10 : decode cX8_alike 10 = .ok (.ifCond .eq 24, 3) := by decide +kernel
theorem dX8_alike_13 : decode cX8_alike 13 = .ok (.aload_n 0, 1) := by decide +kernel
theorem dX8_alike_14 : decode cX8_alike 14 = .ok (.iload_n 2, 1) := by decide +kernel
theorem dX8_alike_15 : decode cX8_alike 15 = .ok (.invokevirtual 224, 3) := by decide +kernel
theorem dX8_alike_18 : decode cX8_alike 18 = .ok (.ifCond .eq 16, 3) := by decide +kernel
theorem dX8_alike_21 : decode cX8_alike 21 = .ok (.aload_n 0, 1) := by decide +kernel
theorem dX8_alike_22 : decode cX8_alike 22 = .ok (.iload_n 1, 1) := by decide +kernel
theorem dX8_alike_23 : decode cX8_alike 23 = .ok (.iload_n 2, 1) := by decide +kernel
theorem dX8_alike_24 : decode cX8_alike 24 = .ok (.invokevirtual 221, 3) := by decide +kernel
theorem dX8_alike_27 : decode cX8_alike 27 = .ok (.ifCond .eq 7, 3) := by decide +kernel
theorem dX8_alike_30 : decode cX8_alike 30 = .ok (.iconst 1, 1) := by decide +kernel
theorem dX8_alike_31 : decode cX8_alike 31 = .ok (.goto 4, 3) := by decide +kernel
theorem dX8_alike_34 : decode cX8_alike 34 = .ok (.iconst 0, 1) := by decide +kernel
theorem dX8_alike_35 : decode cX8_alike 35 = .ok (.ireturn, 1) := by decide +kernel
theorem dX8_isWithin_0 : decode cX8_isWithin 0 = .ok (.iload_n 1, 1) := by decide +kernel
theorem dX8_isWithin_1 : decode cX8_isWithin 1 = .ok (.istore_n 3, 1) := by decide +kernel
theorem dX8_isWithin_2 : decode cX8_isWithin 2 = .ok (.iload_n 3, 1) := by decide +kernel
theorem dX8_isWithin_3 : decode cX8_isWithin 3 = .ok (.iconst (-1), 1) := by decide +kernel
theorem dX8_isWithin_4 : decode cX8_isWithin 4 = .ok (.if_icmp .eq 21, 3) := by decide +kernel
theorem dX8_isWithin_7 : decode cX8_isWithin 7 = .ok (.iload_n 3, 1) := by decide +kernel
theorem dX8_isWithin_8 : decode cX8_isWithin 8 = .ok (.iload_n 2, 1) := by decide +kernel
theorem dX8_isWithin_9 : decode cX8_isWithin 9 = .ok (.if_icmp .eq 16, 3) := by decide +kernel
theorem dX8_isWithin_12 : decode cX8_isWithin 12 = .ok (.aload_n 0, 1) := by decide +kernel
theorem dX8_isWithin_13 : decode cX8_isWithin 13 = .ok (.getfield 16, 3) := by decide +kernel
theorem dX8_isWithin_16 : decode cX8_isWithin 16 = .ok (.getfield 131, 3) := by decide +kernel
theorem dX8_isWithin_19 : decode cX8_isWithin 19 = .ok (.iload_n 3, 1) := by decide +kernel
theorem dX8_isWithin_20 : decode cX8_isWithin 20 = .ok (.iaload, 1) := by decide +kernel
theorem dX8_isWithin_21 : decode cX8_isWithin 21 = .ok (.istore_n 3, 1) := by decide +kernel
theorem dX8_isWithin_22 : decode cX8_isWithin 22 = .ok (.goto (-20), 3) := by decide +kernel
theorem dX8_isWithin_25 : decode cX8_isWithin 25 = .ok (.iload_n 3, 1) := by decide +kernel
theorem dX8_isWithin_26 : decode cX8_isWithin 26 = .ok (.iload_n 2, 1) := by decide +kernel
theorem dX8_isWithin_27 : decode cX8_isWithin 27 = .ok (.if_icmp .ne 7, 3) := by decide +kernel
theorem dX8_isWithin_30 : decode cX8_isWithin 30 = .ok (.iconst 1, 1) := by decide +kernel
theorem dX8_isWithin_31 : decode cX8_isWithin 31 = .ok (.goto 4, 3) := by decide +kernel
theorem dX8_isWithin_34 : decode cX8_isWithin 34 = .ok (.iconst 0, 1) := by decide +kernel
theorem dX8_isWithin_35 : decode cX8_isWithin 35 = .ok (.ireturn, 1) := by decide +kernel
theorem dX8_task_0 : decode cX8_task 0 = .ok (.aload_n 0, 1) := by decide +kernel
theorem dX8_task_1 : decode cX8_task 1 = .ok (.getfield 227, 3) := by decide +kernel
theorem dX8_task_4 : decode cX8_task 4 = .ok (.istore 6, 2) := by decide +kernel
theorem dX8_task_6 : decode cX8_task 6 = .ok (.aload_n 0, 1) := by decide +kernel
theorem dX8_task_7 : decode cX8_task 7 = .ok (.dup, 1) := by decide +kernel
theorem dX8_task_8 : decode cX8_task 8 = .ok (.getfield 227, 3) := by decide +kernel
theorem dX8_task_11 : decode cX8_task 11 = .ok (.iconst 1, 1) := by decide +kernel
theorem dX8_task_12 : decode cX8_task 12 = .ok (.iadd, 1) := by decide +kernel
theorem dX8_task_13 : decode cX8_task 13 = .ok (.putfield 227, 3) := by decide +kernel
theorem dX8_task_16 : decode cX8_task 16 = .ok (.aload_n 0, 1) := by decide +kernel
theorem dX8_task_17 : decode cX8_task 17 = .ok (.getfield 46, 3) := by decide +kernel
theorem dX8_task_20 : decode cX8_task 20 = .ok (.iload 6, 2) := by decide +kernel
theorem dX8_task_22 : decode cX8_task 22 = .ok (.iload_n 1, 1) := by decide +kernel
theorem dX8_task_23 : decode cX8_task 23 = .ok (.iastore, 1) := by decide +kernel
theorem dX8_task_24 : decode cX8_task 24 = .ok (.aload_n 0, 1) := by decide +kernel
theorem dX8_task_25 : decode cX8_task 25 = .ok (.getfield 49, 3) := by decide +kernel
theorem dX8_task_28 : decode cX8_task 28 = .ok (.iload 6, 2) := by decide +kernel
theorem dX8_task_30 : decode cX8_task 30 = .ok (.iload_n 2, 1) := by decide +kernel
theorem dX8_task_31 : decode cX8_task 31 = .ok (.iastore, 1) := by decide +kernel
theorem dX8_task_32 : decode cX8_task 32 = .ok (.aload_n 0, 1) := by decide +kernel
theorem dX8_task_33 : decode cX8_task 33 = .ok (.getfield 52, 3) := by decide +kernel
theorem dX8_task_36 : decode cX8_task 36 = .ok (.iload 6, 2) := by decide +kernel
theorem dX8_task_38 : decode cX8_task 38 = .ok (.iload_n 3, 1) := by decide +kernel
theorem dX8_task_39 : decode cX8_task 39 = .ok (.iastore, 1) := by decide +kernel
theorem dX8_task_40 : decode cX8_task 40 = .ok (.aload_n 0, 1) := by decide +kernel
theorem dX8_task_41 : decode cX8_task 41 = .ok (.getfield 55, 3) := by decide +kernel
theorem dX8_task_44 : decode cX8_task 44 = .ok (.iload 6, 2) := by decide +kernel
theorem dX8_task_46 : decode cX8_task 46 = .ok (.iload 4, 2) := by decide +kernel
theorem dX8_task_48 : decode cX8_task 48 = .ok (.iastore, 1) := by decide +kernel
theorem dX8_task_49 : decode cX8_task 49 = .ok (.aload_n 0, 1) := by decide +kernel
theorem dX8_task_50 : decode cX8_task 50 = .ok (.getfield 58, 3) := by decide +kernel
theorem dX8_task_53 : decode cX8_task 53 = .ok (.iload 6, 2) := by decide +kernel
theorem dX8_task_55 : decode cX8_task 55 = .ok (.iload 5, 2) := by decide +kernel
theorem dX8_task_57 : decode cX8_task 57 = .ok (.iastore, 1) := by decide +kernel
theorem dX8_task_58 : decode cX8_task 58 = .ok (.iload 6, 2) := by decide +kernel
theorem dX8_task_60 : decode cX8_task 60 = .ok (.ireturn, 1) := by decide +kernel
theorem dX8_differAll_0 : decode cX8_differAll 0 = .ok (.iconst 0, 1) := by decide +kernel
theorem dX8_differAll_1 : decode cX8_differAll 1 = .ok (.istore_n 1, 1) := by decide +kernel
theorem dX8_differAll_2 : decode cX8_differAll 2 = .ok (.iload_n 1, 1) := by decide +kernel
theorem dX8_differAll_3 : decode cX8_differAll 3 = .ok (.bipush 26, 2) := by decide +kernel
theorem dX8_differAll_5 : decode cX8_differAll 5 = .ok (.if_icmp .ge 77, 3) := by decide +kernel
theorem dX8_differAll_8 : decode cX8_differAll 8 = .ok (.iconst 0, 1) := by decide +kernel
theorem dX8_differAll_9 : decode cX8_differAll 9 = .ok (.istore_n 2, 1) := by decide +kernel
theorem dX8_differAll_10 : decode cX8_differAll 10 = .ok (.iload_n 2, 1) := by decide +kernel
theorem dX8_differAll_11 : decode cX8_differAll 11 = .ok (.iload_n 1, 1) := by decide +kernel
theorem dX8_differAll_12 : decode cX8_differAll 12 = .ok (.if_icmp .ge 64, 3) := by decide +kernel
theorem dX8_differAll_15 : decode cX8_differAll 15 = .ok (.aload_n 0, 1) := by decide +kernel
theorem dX8_differAll_16 : decode cX8_differAll 16 = .ok (.getfield 39, 3) := by decide +kernel
theorem dX8_differAll_19 : decode cX8_differAll 19 = .ok (.bipush 26, 2) := by decide +kernel
theorem dX8_differAll_21 : decode cX8_differAll 21 = .ok (.iload_n 1, 1) := by decide +kernel
theorem dX8_differAll_22 : decode cX8_differAll 22 = .ok (.imul, 1) := by decide +kernel
theorem dX8_differAll_23 : decode cX8_differAll 23 = .ok (.iload_n 2, 1) := by decide +kernel
theorem dX8_differAll_24 : decode cX8_differAll 24 = .ok (.iadd, 1) := by decide +kernel
theorem dX8_differAll_25 : decode cX8_differAll 25 = .ok (.baload, 1) := by decide +kernel
theorem dX8_differAll_26 : decode cX8_differAll 26 = .ok (.ifCond .eq 44, 3) := by decide +kernel
theorem dX8_differAll_29 : decode cX8_differAll 29 = .ok (.aload_n 0, 1) := by decide +kernel
theorem dX8_differAll_30 : decode cX8_differAll 30 = .ok (.getfield 61, 3) := by decide +kernel
theorem dX8_differAll_33 : decode cX8_differAll 33 = .ok (.iload_n 1, 1) := by decide +kernel
theorem dX8_differAll_34 : decode cX8_differAll 34 = .ok (.iaload, 1) := by decide +kernel
theorem dX8_differAll_35 : decode cX8_differAll 35 = .ok (.iconst (-1), 1) := by decide +kernel
theorem dX8_differAll_36 : decode cX8_differAll 36 = .ok (.if_icmp .eq 34, 3) := by decide +kernel
theorem dX8_differAll_39 : decode cX8_differAll 39 = .ok (.aload_n 0, 1) := by decide +kernel
theorem dX8_differAll_40 : decode cX8_differAll 40 = .ok (.getfield 61, 3) := by decide +kernel
theorem dX8_differAll_43 : decode cX8_differAll 43 = .ok (.iload_n 2, 1) := by decide +kernel
theorem dX8_differAll_44 : decode cX8_differAll 44 = .ok (.iaload, 1) := by decide +kernel
theorem dX8_differAll_45 : decode cX8_differAll 45 = .ok (.iconst (-1), 1) := by decide +kernel
theorem dX8_differAll_46 : decode cX8_differAll 46 = .ok (.if_icmp .eq 24, 3) := by decide +kernel
theorem dX8_differAll_49 : decode cX8_differAll 49 = .ok (.aload_n 0, 1) := by decide +kernel
theorem dX8_differAll_50 : decode cX8_differAll 50 = .ok (.aload_n 0, 1) := by decide +kernel
theorem dX8_differAll_51 : decode cX8_differAll 51 = .ok (.getfield 61, 3) := by decide +kernel
theorem dX8_differAll_54 : decode cX8_differAll 54 = .ok (.iload_n 1, 1) := by decide +kernel
theorem dX8_differAll_55 : decode cX8_differAll 55 = .ok (.iaload, 1) := by decide +kernel
theorem dX8_differAll_56 : decode cX8_differAll 56 = .ok (.aload_n 0, 1) := by decide +kernel
theorem dX8_differAll_57 : decode cX8_differAll 57 = .ok (.getfield 61, 3) := by decide +kernel
end
section
theorem dX8_differAll_60 : decode cX8_differAll 60 = .ok (.iload_n 2, 1) := by decide +kernel
theorem dX8_differAll_61 : decode cX8_differAll 61 = .ok (.iaload, 1) := by decide +kernel
theorem dX8_differAll_62 : decode cX8_differAll 62 = .ok (.invokevirtual 221, 3) := by decide +kernel
theorem dX8_differAll_65 : decode cX8_differAll 65 = .ok (.ifCond .eq 5, 3) := by decide +kernel
theorem dX8_differAll_68 : decode cX8_differAll 68 = .ok (.iconst 0, 1) := by decide +kernel
theorem dX8_differAll_69 : decode cX8_differAll 69 = .ok (.ireturn, 1) := by decide +kernel
theorem dX8_differAll_70 : decode cX8_differAll 70 = .ok (.iinc 2 1, 3) := by decide +kernel
theorem dX8_differAll_73 : decode cX8_differAll 73 = .ok (.goto (-63), 3) := by decide +kernel
theorem dX8_differAll_76 : decode cX8_differAll 76 = .ok (.iinc 1 1, 3) := by decide +kernel
theorem dX8_differAll_79 : decode cX8_differAll 79 = .ok (.goto (-77), 3) := by decide +kernel
theorem dX8_differAll_82 : decode cX8_differAll 82 = .ok (.iconst 1, 1) := by decide +kernel
theorem dX8_differAll_83 : decode cX8_differAll 83 = .ok (.ireturn, 1) := by decide +kernel
theorem dX8_does_0 : decode cX8_does 0 = .ok (.iload_n 1, 1) := by decide +kernel
theorem dX8_does_1 : decode cX8_does 1 = .ok (.iconst (-1), 1) := by decide +kernel
theorem dX8_does_2 : decode cX8_does 2 = .ok (.if_icmp .ne 8, 3) := by decide +kernel
theorem dX8_does_5 : decode cX8_does 5 = .ok (.aload_n 0, 1) := by decide +kernel
theorem dX8_does_6 : decode cX8_does 6 = .ok (.invokevirtual 230, 3) := by decide +kernel
theorem dX8_does_9 : decode cX8_does 9 = .ok (.ireturn, 1) := by decide +kernel
theorem dX8_does_10 : decode cX8_does 10 = .ok (.aload_n 0, 1) := by decide +kernel
theorem dX8_does_11 : decode cX8_does 11 = .ok (.getfield 227, 3) := by decide +kernel
theorem dX8_does_14 : decode cX8_does 14 = .ok (.istore_n 2, 1) := by decide +kernel
theorem dX8_does_15 : decode cX8_does 15 = .ok (.aload_n 0, 1) := by decide +kernel
theorem dX8_does_16 : decode cX8_does 16 = .ok (.getfield 49, 3) := by decide +kernel
theorem dX8_does_19 : decode cX8_does 19 = .ok (.iload_n 1, 1) := by decide +kernel
theorem dX8_does_20 : decode cX8_does 20 = .ok (.iaload, 1) := by decide +kernel
theorem dX8_does_21 : decode cX8_does 21 = .ok (.iconst (-1), 1) := by decide +kernel
theorem dX8_does_22 : decode cX8_does 22 = .ok (.if_icmp .ne 28, 3) := by decide +kernel
theorem dX8_does_25 : decode cX8_does 25 = .ok (.aload_n 0, 1) := by decide +kernel
theorem dX8_does_26 : decode cX8_does 26 = .ok (.aload_n 0, 1) := by decide +kernel
theorem dX8_does_27 : decode cX8_does 27 = .ok (.getfield 46, 3) := by decide +kernel
theorem dX8_does_30 : decode cX8_does 30 = .ok (.iload_n 1, 1) := by decide +kernel
theorem dX8_does_31 : decode cX8_does 31 = .ok (.iaload, 1) := by decide +kernel
theorem dX8_does_32 : decode cX8_does 32 = .ok (.aload_n 0, 1) := by decide +kernel
theorem dX8_does_33 : decode cX8_does 33 = .ok (.getfield 52, 3) := by decide +kernel
theorem dX8_does_36 : decode cX8_does 36 = .ok (.iload_n 1, 1) := by decide +kernel
theorem dX8_does_37 : decode cX8_does 37 = .ok (.iaload, 1) := by decide +kernel
theorem dX8_does_38 : decode cX8_does 38 = .ok (.aload_n 0, 1) := by decide +kernel
theorem dX8_does_39 : decode cX8_does 39 = .ok (.getfield 58, 3) := by decide +kernel
theorem dX8_does_42 : decode cX8_does 42 = .ok (.iload_n 1, 1) := by decide +kernel
theorem dX8_does_43 : decode cX8_does 43 = .ok (.iaload, 1) := by decide +kernel
theorem dX8_does_44 : decode cX8_does 44 = .ok (.invokevirtual 233, 3) := by decide +kernel
theorem dX8_does_47 : decode cX8_does 47 = .ok (.goto 8, 3) := by decide +kernel
theorem dX8_does_50 : decode cX8_does 50 = .ok (.aload_n 0, 1) := by decide +kernel
theorem dX8_does_51 : decode cX8_does 51 = .ok (.iload_n 1, 1) := by decide +kernel
theorem dX8_does_52 : decode cX8_does 52 = .ok (.invokevirtual 236, 3) := by decide +kernel
theorem dX8_does_55 : decode cX8_does 55 = .ok (.istore_n 3, 1) := by decide +kernel
theorem dX8_does_56 : decode cX8_does 56 = .ok (.aload_n 0, 1) := by decide +kernel
theorem dX8_does_57 : decode cX8_does 57 = .ok (.iload_n 2, 1) := by decide +kernel
theorem dX8_does_58 : decode cX8_does 58 = .ok (.putfield 227, 3) := by decide +kernel
theorem dX8_does_61 : decode cX8_does 61 = .ok (.iload_n 3, 1) := by decide +kernel
theorem dX8_does_62 : decode cX8_does 62 = .ok (.ireturn, 1) := by decide +kernel
theorem dX8_whole_0 : decode cX8_whole 0 = .ok (.aload_n 0, 1) := by decide +kernel
theorem dX8_whole_1 : decode cX8_whole 1 = .ok (.getfield 20, 3) := by decide +kernel
theorem dX8_whole_4 : decode cX8_whole 4 = .ok (.getfield 125, 3) := by decide +kernel
theorem dX8_whole_7 : decode cX8_whole 7 = .ok (.iload_n 1, 1) := by decide +kernel
theorem dX8_whole_8 : decode cX8_whole 8 = .ok (.iaload, 1) := by decide +kernel
theorem dX8_whole_9 : decode cX8_whole 9 = .ok (.ifCond .ne 36, 3) := by decide +kernel
theorem dX8_whole_12 : decode cX8_whole 12 = .ok (.aload_n 0, 1) := by decide +kernel
theorem dX8_whole_13 : decode cX8_whole 13 = .ok (.aload_n 0, 1) := by decide +kernel
theorem dX8_whole_14 : decode cX8_whole 14 = .ok (.getfield 20, 3) := by decide +kernel
theorem dX8_whole_17 : decode cX8_whole 17 = .ok (.iload_n 1, 1) := by decide +kernel
theorem dX8_whole_18 : decode cX8_whole 18 = .ok (.aload_n 0, 1) := by decide +kernel
theorem dX8_whole_19 : decode cX8_whole 19 = .ok (.getfield 16, 3) := by decide +kernel
theorem dX8_whole_22 : decode cX8_whole 22 = .ok (.iload_n 2, 1) := by decide +kernel
theorem dX8_whole_23 : decode cX8_whole 23 = .ok (.invokevirtual 215, 3) := by decide +kernel
theorem dX8_whole_26 : decode cX8_whole 26 = .ok (.ifCond .ne 5, 3) := by decide +kernel
theorem dX8_whole_29 : decode cX8_whole 29 = .ok (.iconst 0, 1) := by decide +kernel
theorem dX8_whole_30 : decode cX8_whole 30 = .ok (.ireturn, 1) := by decide +kernel
theorem dX8_whole_31 : decode cX8_whole 31 = .ok (.aload_n 0, 1) := by decide +kernel
theorem dX8_whole_32 : decode cX8_whole 32 = .ok (.aload_n 0, 1) := by decide +kernel
theorem dX8_whole_33 : decode cX8_whole 33 = .ok (.iload_n 1, 1) := by decide +kernel
theorem dX8_whole_34 : decode cX8_whole 34 = .ok (.iconst 0, 1) := by decide +kernel
theorem dX8_whole_35 : decode cX8_whole 35 = .ok (.iload_n 2, 1) := by decide +kernel
theorem dX8_whole_36 : decode cX8_whole 36 = .ok (.iconst 0, 1) := by decide +kernel
theorem dX8_whole_37 : decode cX8_whole 37 = .ok (.iload_n 3, 1) := by decide +kernel
theorem dX8_whole_38 : decode cX8_whole 38 = .ok (.invokevirtual 239, 3) := by decide +kernel
theorem dX8_whole_41 : decode cX8_whole 41 = .ok (.invokevirtual 243, 3) := by decide +kernel
theorem dX8_whole_44 : decode cX8_whole 44 = .ok (.ireturn, 1) := by decide +kernel
theorem dX8_whole_45 : decode cX8_whole 45 = .ok (.aload_n 0, 1) := by decide +kernel
theorem dX8_whole_46 : decode cX8_whole 46 = .ok (.getfield 20, 3) := by decide +kernel
theorem dX8_whole_49 : decode cX8_whole 49 = .ok (.getfield 125, 3) := by decide +kernel
theorem dX8_whole_52 : decode cX8_whole 52 = .ok (.iload_n 1, 1) := by decide +kernel
theorem dX8_whole_53 : decode cX8_whole 53 = .ok (.iaload, 1) := by decide +kernel
theorem dX8_whole_54 : decode cX8_whole 54 = .ok (.iconst 1, 1) := by decide +kernel
theorem dX8_whole_55 : decode cX8_whole 55 = .ok (.if_icmp .ne 82, 3) := by decide +kernel
theorem dX8_whole_58 : decode cX8_whole 58 = .ok (.aload_n 0, 1) := by decide +kernel
theorem dX8_whole_59 : decode cX8_whole 59 = .ok (.getfield 20, 3) := by decide +kernel
theorem dX8_whole_62 : decode cX8_whole 62 = .ok (.getfield 140, 3) := by decide +kernel
theorem dX8_whole_65 : decode cX8_whole 65 = .ok (.iload_n 1, 1) := by decide +kernel
theorem dX8_whole_66 : decode cX8_whole 66 = .ok (.iaload, 1) := by decide +kernel
theorem dX8_whole_67 : decode cX8_whole 67 = .ok (.istore 4, 2) := by decide +kernel
theorem dX8_whole_69 : decode cX8_whole 69 = .ok (.aload_n 0, 1) := by decide +kernel
theorem dX8_whole_70 : decode cX8_whole 70 = .ok (.getfield 61, 3) := by decide +kernel
theorem dX8_whole_73 : decode cX8_whole 73 = .ok (.iload 4, 2) := by decide +kernel
theorem dX8_whole_75 : decode cX8_whole 75 = .ok (.iaload, 1) := by decide +kernel
theorem dX8_whole_76 : decode cX8_whole 76 = .ok (.iconst (-1), 1) := by decide +kernel
theorem dX8_whole_77 : decode cX8_whole 77 = .ok (.if_icmp .eq 32, 3) := by decide +kernel
theorem dX8_whole_80 : decode cX8_whole 80 = .ok (.aload_n 0, 1) := by decide +kernel
theorem dX8_whole_81 : decode cX8_whole 81 = .ok (.aload_n 0, 1) := by decide +kernel
theorem dX8_whole_82 : decode cX8_whole 82 = .ok (.getfield 61, 3) := by decide +kernel
theorem dX8_whole_85 : decode cX8_whole 85 = .ok (.iload 4, 2) := by decide +kernel
theorem dX8_whole_87 : decode cX8_whole 87 = .ok (.iaload, 1) := by decide +kernel
theorem dX8_whole_88 : decode cX8_whole 88 = .ok (.iload_n 2, 1) := by decide +kernel
theorem dX8_whole_89 : decode cX8_whole 89 = .ok (.invokevirtual 221, 3) := by decide +kernel
theorem dX8_whole_92 : decode cX8_whole 92 = .ok (.ifCond .eq 15, 3) := by decide +kernel
theorem dX8_whole_95 : decode cX8_whole 95 = .ok (.aload_n 0, 1) := by decide +kernel
theorem dX8_whole_96 : decode cX8_whole 96 = .ok (.iload_n 3, 1) := by decide +kernel
theorem dX8_whole_97 : decode cX8_whole 97 = .ok (.invokevirtual 243, 3) := by decide +kernel
theorem dX8_whole_100 : decode cX8_whole 100 = .ok (.ifCond .eq 7, 3) := by decide +kernel
theorem dX8_whole_103 : decode cX8_whole 103 = .ok (.iconst 1, 1) := by decide +kernel
theorem dX8_whole_104 : decode cX8_whole 104 = .ok (.goto 4, 3) := by decide +kernel
theorem dX8_whole_107 : decode cX8_whole 107 = .ok (.iconst 0, 1) := by decide +kernel
theorem dX8_whole_108 : decode cX8_whole 108 = .ok (.ireturn, 1) := by decide +kernel
theorem dX8_whole_109 : decode cX8_whole 109 = .ok (.aload_n 0, 1) := by decide +kernel
theorem dX8_whole_110 : decode cX8_whole 110 = .ok (.getfield 61, 3) := by decide +kernel
theorem dX8_whole_113 : decode cX8_whole 113 = .ok (.iload 4, 2) := by decide +kernel
theorem dX8_whole_115 : decode cX8_whole 115 = .ok (.iload_n 2, 1) := by decide +kernel
theorem dX8_whole_116 : decode cX8_whole 116 = .ok (.iastore, 1) := by decide +kernel
theorem dX8_whole_117 : decode cX8_whole 117 = .ok (.aload_n 0, 1) := by decide +kernel
theorem dX8_whole_118 : decode cX8_whole 118 = .ok (.iload_n 3, 1) := by decide +kernel
theorem dX8_whole_119 : decode cX8_whole 119 = .ok (.invokevirtual 243, 3) := by decide +kernel
theorem dX8_whole_122 : decode cX8_whole 122 = .ok (.ifCond .eq 5, 3) := by decide +kernel
theorem dX8_whole_125 : decode cX8_whole 125 = .ok (.iconst 1, 1) := by decide +kernel
theorem dX8_whole_126 : decode cX8_whole 126 = .ok (.ireturn, 1) := by decide +kernel
theorem dX8_whole_127 : decode cX8_whole 127 = .ok (.aload_n 0, 1) := by decide +kernel
theorem dX8_whole_128 : decode cX8_whole 128 = .ok (.getfield 61, 3) := by decide +kernel
theorem dX8_whole_131 : decode cX8_whole 131 = .ok (.iload 4, 2) := by decide +kernel
theorem dX8_whole_133 : decode cX8_whole 133 = .ok (.iconst (-1), 1) := by decide +kernel
theorem dX8_whole_134 : decode cX8_whole 134 = .ok (.iastore, 1) := by decide +kernel
theorem dX8_whole_135 : decode cX8_whole 135 = .ok (.iconst 0, 1) := by decide +kernel
theorem dX8_whole_136 : decode cX8_whole 136 = .ok (.ireturn, 1) := by decide +kernel
theorem dX8_whole_137 : decode cX8_whole 137 = .ok (.iload_n 2, 1) := by decide +kernel
theorem dX8_whole_138 : decode cX8_whole 138 = .ok (.istore 4, 2) := by decide +kernel
theorem dX8_whole_140 : decode cX8_whole 140 = .ok (.iload 4, 2) := by decide +kernel
theorem dX8_whole_142 : decode cX8_whole 142 = .ok (.aload_n 0, 1) := by decide +kernel
theorem dX8_whole_143 : decode cX8_whole 143 = .ok (.getfield 16, 3) := by decide +kernel
theorem dX8_whole_146 : decode cX8_whole 146 = .ok (.getfield 122, 3) := by decide +kernel
theorem dX8_whole_149 : decode cX8_whole 149 = .ok (.if_icmp .ge 46, 3) := by decide +kernel
theorem dX8_whole_152 : decode cX8_whole 152 = .ok (.aload_n 0, 1) := by decide +kernel
theorem dX8_whole_153 : decode cX8_whole 153 = .ok (.iload 4, 2) := by decide +kernel
theorem dX8_whole_155 : decode cX8_whole 155 = .ok (.iload_n 2, 1) := by decide +kernel
theorem dX8_whole_156 : decode cX8_whole 156 = .ok (.invokevirtual 246, 3) := by decide +kernel
theorem dX8_whole_159 : decode cX8_whole 159 = .ok (.ifCond .eq 36, 3) := by decide +kernel
theorem dX8_whole_162 : decode cX8_whole 162 = .ok (.aload_n 0, 1) := by decide +kernel
theorem dX8_whole_163 : decode cX8_whole 163 = .ok (.aload_n 0, 1) := by decide +kernel
theorem dX8_whole_164 : decode cX8_whole 164 = .ok (.aload_n 0, 1) := by decide +kernel
theorem dX8_whole_165 : decode cX8_whole 165 = .ok (.getfield 20, 3) := by decide +kernel
theorem dX8_whole_168 : decode cX8_whole 168 = .ok (.iload_n 1, 1) := by decide +kernel
theorem dX8_whole_169 : decode cX8_whole 169 = .ok (.iconst 0, 1) := by decide +kernel
theorem dX8_whole_170 : decode cX8_whole 170 = .ok (.invokevirtual 219, 3) := by decide +kernel
theorem dX8_whole_173 : decode cX8_whole 173 = .ok (.iconst (-1), 1) := by decide +kernel
theorem dX8_whole_174 : decode cX8_whole 174 = .ok (.iload 4, 2) := by decide +kernel
theorem dX8_whole_176 : decode cX8_whole 176 = .ok (.iconst 0, 1) := by decide +kernel
theorem dX8_whole_177 : decode cX8_whole 177 = .ok (.iload_n 3, 1) := by decide +kernel
theorem dX8_whole_178 : decode cX8_whole 178 = .ok (.invokevirtual 239, 3) := by decide +kernel
theorem dX8_whole_181 : decode cX8_whole 181 = .ok (.invokevirtual 243, 3) := by decide +kernel
theorem dX8_whole_184 : decode cX8_whole 184 = .ok (.ifCond .eq 5, 3) := by decide +kernel
theorem dX8_whole_187 : decode cX8_whole 187 = .ok (.iconst 1, 1) := by decide +kernel
theorem dX8_whole_188 : decode cX8_whole 188 = .ok (.ireturn, 1) := by decide +kernel
theorem dX8_whole_189 : decode cX8_whole 189 = .ok (.iinc 4 1, 3) := by decide +kernel
theorem dX8_whole_192 : decode cX8_whole 192 = .ok (.goto (-52), 3) := by decide +kernel
theorem dX8_whole_195 : decode cX8_whole 195 = .ok (.iconst 0, 1) := by decide +kernel
theorem dX8_whole_196 : decode cX8_whole 196 = .ok (.ireturn, 1) := by decide +kernel
theorem dX8_isRowAlike_0 : decode cX8_isRowAlike 0 = .ok (.aload_n 0, 1) := by decide +kernel
theorem dX8_isRowAlike_1 : decode cX8_isRowAlike 1 = .ok (.getfield 67, 3) := by decide +kernel
theorem dX8_isRowAlike_4 : decode cX8_isRowAlike 4 = .ok (.iload_n 1, 1) := by decide +kernel
theorem dX8_isRowAlike_5 : decode cX8_isRowAlike 5 = .ok (.iaload, 1) := by decide +kernel
theorem dX8_isRowAlike_6 : decode cX8_isRowAlike 6 = .ok (.iload 4, 2) := by decide +kernel
theorem dX8_isRowAlike_8 : decode cX8_isRowAlike 8 = .ok (.if_icmp .eq 5, 3) := by decide +kernel
theorem dX8_isRowAlike_11 : decode cX8_isRowAlike 11 = .ok (.iconst 0, 1) := by decide +kernel
theorem dX8_isRowAlike_12 : decode cX8_isRowAlike 12 = .ok (.ireturn, 1) := by decide +kernel
theorem dX8_isRowAlike_13 : decode cX8_isRowAlike 13 = .ok (.iconst 1, 1) := by decide +kernel
theorem dX8_isRowAlike_14 : decode cX8_isRowAlike 14 = .ok (.istore 5, 2) := by decide +kernel
theorem dX8_isRowAlike_16 : decode cX8_isRowAlike 16 = .ok (.iconst 0, 1) := by decide +kernel
theorem dX8_isRowAlike_17 : decode cX8_isRowAlike 17 = .ok (.istore 6, 2) := by decide +kernel
theorem dX8_isRowAlike_19 : decode cX8_isRowAlike 19 = .ok (.iload 6, 2) := by decide +kernel
theorem dX8_isRowAlike_21 : decode cX8_isRowAlike 21 = .ok (.iload 4, 2) := by decide +kernel
theorem dX8_isRowAlike_23 : decode cX8_isRowAlike 23 = .ok (.if_icmp .ge 54, 3) := by decide +kernel
theorem dX8_isRowAlike_26 : decode cX8_isRowAlike 26 = .ok (.iload 5, 2) := by decide +kernel
theorem dX8_isRowAlike_28 : decode cX8_isRowAlike 28 = .ok (.ifCond .eq 49, 3) := by decide +kernel
theorem dX8_isRowAlike_31 : decode cX8_isRowAlike 31 = .ok (.aload_n 0, 1) := by decide +kernel
theorem dX8_isRowAlike_32 : decode cX8_isRowAlike 32 = .ok (.aload_n 0, 1) := by decide +kernel
theorem dX8_isRowAlike_33 : decode cX8_isRowAlike 33 = .ok (.getfield 16, 3) := by decide +kernel
theorem dX8_isRowAlike_36 : decode cX8_isRowAlike 36 = .ok (.aload_n 0, 1) := by decide +kernel
theorem dX8_isRowAlike_37 : decode cX8_isRowAlike 37 = .ok (.getfield 70, 3) := by decide +kernel
theorem dX8_isRowAlike_40 : decode cX8_isRowAlike 40 = .ok (.iload_n 1, 1) := by decide +kernel
theorem dX8_isRowAlike_41 : decode cX8_isRowAlike 41 = .ok (.iaload, 1) := by decide +kernel
theorem dX8_isRowAlike_42 : decode cX8_isRowAlike 42 = .ok (.aload_n 0, 1) := by decide +kernel
theorem dX8_isRowAlike_43 : decode cX8_isRowAlike 43 = .ok (.getfield 73, 3) := by decide +kernel
theorem dX8_isRowAlike_46 : decode cX8_isRowAlike 46 = .ok (.iload_n 1, 1) := by decide +kernel
theorem dX8_isRowAlike_47 : decode cX8_isRowAlike 47 = .ok (.iaload, 1) := by decide +kernel
theorem dX8_isRowAlike_48 : decode cX8_isRowAlike 48 = .ok (.iload 6, 2) := by decide +kernel
theorem dX8_isRowAlike_50 : decode cX8_isRowAlike 50 = .ok (.iadd, 1) := by decide +kernel
theorem dX8_isRowAlike_51 : decode cX8_isRowAlike 51 = .ok (.invokevirtual 219, 3) := by decide +kernel
theorem dX8_isRowAlike_54 : decode cX8_isRowAlike 54 = .ok (.aload_n 0, 1) := by decide +kernel
theorem dX8_isRowAlike_55 : decode cX8_isRowAlike 55 = .ok (.getfield 16, 3) := by decide +kernel
theorem dX8_isRowAlike_58 : decode cX8_isRowAlike 58 = .ok (.iload_n 2, 1) := by decide +kernel
theorem dX8_isRowAlike_59 : decode cX8_isRowAlike 59 = .ok (.iload_n 3, 1) := by decide +kernel
theorem dX8_isRowAlike_60 : decode cX8_isRowAlike 60 = .ok (.iload 6, 2) := by decide +kernel
theorem dX8_isRowAlike_62 : decode cX8_isRowAlike 62 = .ok (.iadd, 1) := by decide +kernel
theorem dX8_isRowAlike_63 : decode cX8_isRowAlike 63 = .ok (.invokevirtual 219, 3) := by decide +kernel
theorem dX8_isRowAlike_66 : decode cX8_isRowAlike 66 = .ok (.invokevirtual 221, 3) := by decide +kernel
theorem dX8_isRowAlike_69 : decode cX8_isRowAlike 69 = .ok (.istore 5, 2) := by decide +kernel
theorem dX8_isRowAlike_71 : decode cX8_isRowAlike 71 = .ok (.iinc 6 1, 3) := by decide +kernel
theorem dX8_isRowAlike_74 : decode cX8_isRowAlike 74 = .ok (.goto (-55), 3) := by decide +kernel
theorem dX8_isRowAlike_77 : decode cX8_isRowAlike 77 = .ok (.iload 5, 2) := by decide +kernel
theorem dX8_isRowAlike_79 : decode cX8_isRowAlike 79 = .ok (.ireturn, 1) := by decide +kernel
theorem dX8_some_0 : decode cX8_some 0 = .ok (.aload_n 0, 1) := by decide +kernel
theorem dX8_some_1 : decode cX8_some 1 = .ok (.getfield 46, 3) := by decide +kernel
theorem dX8_some_4 : decode cX8_some 4 = .ok (.iload_n 1, 1) := by decide +kernel
theorem dX8_some_5 : decode cX8_some 5 = .ok (.iaload, 1) := by decide +kernel
theorem dX8_some_6 : decode cX8_some 6 = .ok (.istore_n 2, 1) := by decide +kernel
theorem dX8_some_7 : decode cX8_some 7 = .ok (.aload_n 0, 1) := by decide +kernel
theorem dX8_some_8 : decode cX8_some 8 = .ok (.getfield 49, 3) := by decide +kernel
theorem dX8_some_11 : decode cX8_some 11 = .ok (.iload_n 1, 1) := by decide +kernel
theorem dX8_some_12 : decode cX8_some 12 = .ok (.iaload, 1) := by decide +kernel
theorem dX8_some_13 : decode cX8_some 13 = .ok (.istore_n 3, 1) := by decide +kernel
theorem dX8_some_14 : decode cX8_some 14 = .ok (.aload_n 0, 1) := by decide +kernel
theorem dX8_some_15 : decode cX8_some 15 = .ok (.getfield 52, 3) := by decide +kernel
theorem dX8_some_18 : decode cX8_some 18 = .ok (.iload_n 1, 1) := by decide +kernel
theorem dX8_some_19 : decode cX8_some 19 = .ok (.iaload, 1) := by decide +kernel
theorem dX8_some_20 : decode cX8_some 20 = .ok (.istore 4, 2) := by decide +kernel
theorem dX8_some_22 : decode cX8_some 22 = .ok (.aload_n 0, 1) := by decide +kernel
theorem dX8_some_23 : decode cX8_some 23 = .ok (.getfield 55, 3) := by decide +kernel
theorem dX8_some_26 : decode cX8_some 26 = .ok (.iload_n 1, 1) := by decide +kernel
theorem dX8_some_27 : decode cX8_some 27 = .ok (.iaload, 1) := by decide +kernel
theorem dX8_some_28 : decode cX8_some 28 = .ok (.istore 5, 2) := by decide +kernel
theorem dX8_some_30 : decode cX8_some 30 = .ok (.aload_n 0, 1) := by decide +kernel
theorem dX8_some_31 : decode cX8_some 31 = .ok (.getfield 58, 3) := by decide +kernel
theorem dX8_some_34 : decode cX8_some 34 = .ok (.iload_n 1, 1) := by decide +kernel
theorem dX8_some_35 : decode cX8_some 35 = .ok (.iaload, 1) := by decide +kernel
theorem dX8_some_36 : decode cX8_some 36 = .ok (.istore 6, 2) := by decide +kernel
theorem dX8_some_38 : decode cX8_some 38 = .ok (.iload_n 3, 1) := by decide +kernel
theorem dX8_some_39 : decode cX8_some 39 = .ok (.aload_n 0, 1) := by decide +kernel
theorem dX8_some_40 : decode cX8_some 40 = .ok (.getfield 20, 3) := by decide +kernel
theorem dX8_some_43 : decode cX8_some 43 = .ok (.getfield 134, 3) := by decide +kernel
theorem dX8_some_46 : decode cX8_some 46 = .ok (.iload_n 2, 1) := by decide +kernel
theorem dX8_some_47 : decode cX8_some 47 = .ok (.iaload, 1) := by decide +kernel
theorem dX8_some_48 : decode cX8_some 48 = .ok (.if_icmp .ne 33, 3) := by decide +kernel
theorem dX8_some_51 : decode cX8_some 51 = .ok (.iload 5, 2) := by decide +kernel
theorem dX8_some_53 : decode cX8_some 53 = .ok (.aload_n 0, 1) := by decide +kernel
theorem dX8_some_54 : decode cX8_some 54 = .ok (.getfield 16, 3) := by decide +kernel
theorem dX8_some_57 : decode cX8_some 57 = .ok (.getfield 134, 3) := by decide +kernel
theorem dX8_some_60 : decode cX8_some 60 = .ok (.iload 4, 2) := by decide +kernel
theorem dX8_some_62 : decode cX8_some 62 = .ok (.iaload, 1) := by decide +kernel
theorem dX8_some_63 : decode cX8_some 63 = .ok (.if_icmp .ne 16, 3) := by decide +kernel
theorem dX8_some_66 : decode cX8_some 66 = .ok (.aload_n 0, 1) := by decide +kernel
theorem dX8_some_67 : decode cX8_some 67 = .ok (.iload 6, 2) := by decide +kernel
theorem dX8_some_69 : decode cX8_some 69 = .ok (.invokevirtual 243, 3) := by decide +kernel
theorem dX8_some_72 : decode cX8_some 72 = .ok (.ifCond .eq 7, 3) := by decide +kernel
theorem dX8_some_75 : decode cX8_some 75 = .ok (.iconst 1, 1) := by decide +kernel
theorem dX8_some_76 : decode cX8_some 76 = .ok (.goto 4, 3) := by decide +kernel
theorem dX8_some_79 : decode cX8_some 79 = .ok (.iconst 0, 1) := by decide +kernel
theorem dX8_some_80 : decode cX8_some 80 = .ok (.ireturn, 1) := by decide +kernel
theorem dX8_some_81 : decode cX8_some 81 = .ok (.aload_n 0, 1) := by decide +kernel
theorem dX8_some_82 : decode cX8_some 82 = .ok (.getfield 20, 3) := by decide +kernel
theorem dX8_some_85 : decode cX8_some 85 = .ok (.iload_n 2, 1) := by decide +kernel
theorem dX8_some_86 : decode cX8_some 86 = .ok (.iload_n 3, 1) := by decide +kernel
theorem dX8_some_87 : decode cX8_some 87 = .ok (.invokevirtual 219, 3) := by decide +kernel
theorem dX8_some_90 : decode cX8_some 90 = .ok (.istore 7, 2) := by decide +kernel
theorem dX8_some_92 : decode cX8_some 92 = .ok (.aload_n 0, 1) := by decide +kernel
theorem dX8_some_93 : decode cX8_some 93 = .ok (.getfield 20, 3) := by decide +kernel
theorem dX8_some_96 : decode cX8_some 96 = .ok (.getfield 125, 3) := by decide +kernel
theorem dX8_some_99 : decode cX8_some 99 = .ok (.iload 7, 2) := by decide +kernel
theorem dX8_some_101 : decode cX8_some 101 = .ok (.iaload, 1) := by decide +kernel
theorem dX8_some_102 : decode cX8_some 102 = .ok (.iconst 2, 1) := by decide +kernel
theorem dX8_some_103 : decode cX8_some 103 = .ok (.if_icmp .eq 60, 3) := by decide +kernel
theorem dX8_some_106 : decode cX8_some 106 = .ok (.iload 5, 2) := by decide +kernel
theorem dX8_some_108 : decode cX8_some 108 = .ok (.aload_n 0, 1) := by decide +kernel
theorem dX8_some_109 : decode cX8_some 109 = .ok (.getfield 16, 3) := by decide +kernel
theorem dX8_some_112 : decode cX8_some 112 = .ok (.getfield 134, 3) := by decide +kernel
theorem dX8_some_115 : decode cX8_some 115 = .ok (.iload 4, 2) := by decide +kernel
theorem dX8_some_117 : decode cX8_some 117 = .ok (.iaload, 1) := by decide +kernel
theorem dX8_some_118 : decode cX8_some 118 = .ok (.if_icmp .ne 5, 3) := by decide +kernel
theorem dX8_some_121 : decode cX8_some 121 = .ok (.iconst 0, 1) := by decide +kernel
theorem dX8_some_122 : decode cX8_some 122 = .ok (.ireturn, 1) := by decide +kernel
theorem dX8_some_123 : decode cX8_some 123 = .ok (.aload_n 0, 1) := by decide +kernel
theorem dX8_some_124 : decode cX8_some 124 = .ok (.aload_n 0, 1) := by decide +kernel
theorem dX8_some_125 : decode cX8_some 125 = .ok (.iload 7, 2) := by decide +kernel
theorem dX8_some_127 : decode cX8_some 127 = .ok (.iconst (-1), 1) := by decide +kernel
theorem dX8_some_128 : decode cX8_some 128 = .ok (.aload_n 0, 1) := by decide +kernel
theorem dX8_some_129 : decode cX8_some 129 = .ok (.getfield 16, 3) := by decide +kernel
theorem dX8_some_132 : decode cX8_some 132 = .ok (.iload 4, 2) := by decide +kernel
theorem dX8_some_134 : decode cX8_some 134 = .ok (.iload 5, 2) := by decide +kernel
theorem dX8_some_136 : decode cX8_some 136 = .ok (.invokevirtual 219, 3) := by decide +kernel
theorem dX8_some_139 : decode cX8_some 139 = .ok (.iconst 0, 1) := by decide +kernel
theorem dX8_some_140 : decode cX8_some 140 = .ok (.aload_n 0, 1) := by decide +kernel
theorem dX8_some_141 : decode cX8_some 141 = .ok (.iload_n 2, 1) := by decide +kernel
theorem dX8_some_142 : decode cX8_some 142 = .ok (.iload_n 3, 1) := by decide +kernel
theorem dX8_some_143 : decode cX8_some 143 = .ok (.iconst 1, 1) := by decide +kernel
theorem dX8_some_144 : decode cX8_some 144 = .ok (.iadd, 1) := by decide +kernel
theorem dX8_some_145 : decode cX8_some 145 = .ok (.iload 4, 2) := by decide +kernel
theorem dX8_some_147 : decode cX8_some 147 = .ok (.iload 5, 2) := by decide +kernel
theorem dX8_some_149 : decode cX8_some 149 = .ok (.iconst 1, 1) := by decide +kernel
theorem dX8_some_150 : decode cX8_some 150 = .ok (.iadd, 1) := by decide +kernel
theorem dX8_some_151 : decode cX8_some 151 = .ok (.iload 6, 2) := by decide +kernel
theorem dX8_some_153 : decode cX8_some 153 = .ok (.invokevirtual 239, 3) := by decide +kernel
theorem dX8_some_156 : decode cX8_some 156 = .ok (.invokevirtual 239, 3) := by decide +kernel
theorem dX8_some_159 : decode cX8_some 159 = .ok (.invokevirtual 243, 3) := by decide +kernel
theorem dX8_some_162 : decode cX8_some 162 = .ok (.ireturn, 1) := by decide +kernel
theorem dX8_some_163 : decode cX8_some 163 = .ok (.aload_n 0, 1) := by decide +kernel
theorem dX8_some_164 : decode cX8_some 164 = .ok (.getfield 20, 3) := by decide +kernel
theorem dX8_some_167 : decode cX8_some 167 = .ok (.getfield 140, 3) := by decide +kernel
theorem dX8_some_170 : decode cX8_some 170 = .ok (.iload 7, 2) := by decide +kernel
theorem dX8_some_172 : decode cX8_some 172 = .ok (.iaload, 1) := by decide +kernel
theorem dX8_some_173 : decode cX8_some 173 = .ok (.istore 8, 2) := by decide +kernel
theorem dX8_some_175 : decode cX8_some 175 = .ok (.aload_n 0, 1) := by decide +kernel
theorem dX8_some_176 : decode cX8_some 176 = .ok (.getfield 67, 3) := by decide +kernel
theorem dX8_some_179 : decode cX8_some 179 = .ok (.iload 8, 2) := by decide +kernel
theorem dX8_some_181 : decode cX8_some 181 = .ok (.iaload, 1) := by decide +kernel
theorem dX8_some_182 : decode cX8_some 182 = .ok (.iconst (-1), 1) := by decide +kernel
theorem dX8_some_183 : decode cX8_some 183 = .ok (.if_icmp .eq 7, 3) := by decide +kernel
theorem dX8_some_186 : decode cX8_some 186 = .ok (.iconst 1, 1) := by decide +kernel
theorem dX8_some_187 : decode cX8_some 187 = .ok (.goto 4, 3) := by decide +kernel
theorem dX8_some_190 : decode cX8_some 190 = .ok (.iconst 0, 1) := by decide +kernel
theorem dX8_some_191 : decode cX8_some 191 = .ok (.istore 9, 2) := by decide +kernel
theorem dX8_some_193 : decode cX8_some 193 = .ok (.iconst 0, 1) := by decide +kernel
theorem dX8_some_194 : decode cX8_some 194 = .ok (.istore 10, 2) := by decide +kernel
theorem dX8_some_196 : decode cX8_some 196 = .ok (.iload 5, 2) := by decide +kernel
theorem dX8_some_198 : decode cX8_some 198 = .ok (.iload 10, 2) := by decide +kernel
theorem dX8_some_200 : decode cX8_some 200 = .ok (.iadd, 1) := by decide +kernel
theorem dX8_some_201 : decode cX8_some 201 = .ok (.aload_n 0, 1) := by decide +kernel
theorem dX8_some_202 : decode cX8_some 202 = .ok (.getfield 16, 3) := by decide +kernel
theorem dX8_some_205 : decode cX8_some 205 = .ok (.getfield 134, 3) := by decide +kernel
theorem dX8_some_208 : decode cX8_some 208 = .ok (.iload 4, 2) := by decide +kernel
theorem dX8_some_210 : decode cX8_some 210 = .ok (.iaload, 1) := by decide +kernel
theorem dX8_some_211 : decode cX8_some 211 = .ok (.if_icmp .gt 143, 3) := by decide +kernel
theorem dX8_some_214 : decode cX8_some 214 = .ok (.iload 9, 2) := by decide +kernel
theorem dX8_some_216 : decode cX8_some 216 = .ok (.ifCond .eq 44, 3) := by decide +kernel
theorem dX8_some_219 : decode cX8_some 219 = .ok (.aload_n 0, 1) := by decide +kernel
theorem dX8_some_220 : decode cX8_some 220 = .ok (.iload 8, 2) := by decide +kernel
theorem dX8_some_222 : decode cX8_some 222 = .ok (.iload 4, 2) := by decide +kernel
theorem dX8_some_224 : decode cX8_some 224 = .ok (.iload 5, 2) := by decide +kernel
theorem dX8_some_226 : decode cX8_some 226 = .ok (.iload 10, 2) := by decide +kernel
theorem dX8_some_228 : decode cX8_some 228 = .ok (.invokevirtual 249, 3) := by decide +kernel
theorem dX8_some_231 : decode cX8_some 231 = .ok (.ifCond .eq 117, 3) := by decide +kernel
theorem dX8_some_234 : decode cX8_some 234 = .ok (.aload_n 0, 1) := by decide +kernel
theorem dX8_some_235 : decode cX8_some 235 = .ok (.aload_n 0, 1) := by decide +kernel
theorem dX8_some_236 : decode cX8_some 236 = .ok (.iload_n 2, 1) := by decide +kernel
theorem dX8_some_237 : decode cX8_some 237 = .ok (.iload_n 3, 1) := by decide +kernel
theorem dX8_some_238 : decode cX8_some 238 = .ok (.iconst 1, 1) := by decide +kernel
theorem dX8_some_239 : decode cX8_some 239 = .ok (.iadd, 1) := by decide +kernel
theorem dX8_some_240 : decode cX8_some 240 = .ok (.iload 4, 2) := by decide +kernel
theorem dX8_some_242 : decode cX8_some 242 = .ok (.iload 5, 2) := by decide +kernel
theorem dX8_some_244 : decode cX8_some 244 = .ok (.iload 10, 2) := by decide +kernel
theorem dX8_some_246 : decode cX8_some 246 = .ok (.iadd, 1) := by decide +kernel
theorem dX8_some_247 : decode cX8_some 247 = .ok (.iload 6, 2) := by decide +kernel
theorem dX8_some_249 : decode cX8_some 249 = .ok (.invokevirtual 239, 3) := by decide +kernel
theorem dX8_some_252 : decode cX8_some 252 = .ok (.invokevirtual 243, 3) := by decide +kernel
theorem dX8_some_255 : decode cX8_some 255 = .ok (.ifCond .eq 93, 3) := by decide +kernel
theorem dX8_some_258 : decode cX8_some 258 = .ok (.iconst 1, 1) := by decide +kernel
theorem dX8_some_259 : decode cX8_some 259 = .ok (.ireturn, 1) := by decide +kernel
theorem dX8_some_260 : decode cX8_some 260 = .ok (.aload_n 0, 1) := by decide +kernel
theorem dX8_some_261 : decode cX8_some 261 = .ok (.getfield 67, 3) := by decide +kernel
theorem dX8_some_264 : decode cX8_some 264 = .ok (.iload 8, 2) := by decide +kernel
theorem dX8_some_266 : decode cX8_some 266 = .ok (.iload 10, 2) := by decide +kernel
theorem dX8_some_268 : decode cX8_some 268 = .ok (.iastore, 1) := by decide +kernel
theorem dX8_some_269 : decode cX8_some 269 = .ok (.aload_n 0, 1) := by decide +kernel
theorem dX8_some_270 : decode cX8_some 270 = .ok (.getfield 70, 3) := by decide +kernel
theorem dX8_some_273 : decode cX8_some 273 = .ok (.iload 8, 2) := by decide +kernel
theorem dX8_some_275 : decode cX8_some 275 = .ok (.iload 4, 2) := by decide +kernel
theorem dX8_some_277 : decode cX8_some 277 = .ok (.iastore, 1) := by decide +kernel
theorem dX8_some_278 : decode cX8_some 278 = .ok (.aload_n 0, 1) := by decide +kernel
theorem dX8_some_279 : decode cX8_some 279 = .ok (.getfield 73, 3) := by decide +kernel
theorem dX8_some_282 : decode cX8_some 282 = .ok (.iload 8, 2) := by decide +kernel
theorem dX8_some_284 : decode cX8_some 284 = .ok (.iload 5, 2) := by decide +kernel
theorem dX8_some_286 : decode cX8_some 286 = .ok (.iastore, 1) := by decide +kernel
theorem dX8_some_287 : decode cX8_some 287 = .ok (.aload_n 0, 1) := by decide +kernel
theorem dX8_some_288 : decode cX8_some 288 = .ok (.getfield 64, 3) := by decide +kernel
theorem dX8_some_291 : decode cX8_some 291 = .ok (.iload 8, 2) := by decide +kernel
theorem dX8_some_293 : decode cX8_some 293 = .ok (.iload 10, 2) := by decide +kernel
theorem dX8_some_295 : decode cX8_some 295 = .ok (.ifCond .ne 7, 3) := by decide +kernel
theorem dX8_some_298 : decode cX8_some 298 = .ok (.iconst (-1), 1) := by decide +kernel
theorem dX8_some_299 : decode cX8_some 299 = .ok (.goto 14, 3) := by decide +kernel
theorem dX8_some_302 : decode cX8_some 302 = .ok (.aload_n 0, 1) := by decide +kernel
theorem dX8_some_303 : decode cX8_some 303 = .ok (.getfield 16, 3) := by decide +kernel
theorem dX8_some_306 : decode cX8_some 306 = .ok (.iload 4, 2) := by decide +kernel
theorem dX8_some_308 : decode cX8_some 308 = .ok (.iload 5, 2) := by decide +kernel
theorem dX8_some_310 : decode cX8_some 310 = .ok (.invokevirtual 219, 3) := by decide +kernel
theorem dX8_some_313 : decode cX8_some 313 = .ok (.iastore, 1) := by decide +kernel
theorem dX8_some_314 : decode cX8_some 314 = .ok (.aload_n 0, 1) := by decide +kernel
theorem dX8_some_315 : decode cX8_some 315 = .ok (.aload_n 0, 1) := by decide +kernel
theorem dX8_some_316 : decode cX8_some 316 = .ok (.iload_n 2, 1) := by decide +kernel
theorem dX8_some_317 : decode cX8_some 317 = .ok (.iload_n 3, 1) := by decide +kernel
theorem dX8_some_318 : decode cX8_some 318 = .ok (.iconst 1, 1) := by decide +kernel
theorem dX8_some_319 : decode cX8_some 319 = .ok (.iadd, 1) := by decide +kernel
theorem dX8_some_320 : decode cX8_some 320 = .ok (.iload 4, 2) := by decide +kernel
theorem dX8_some_322 : decode cX8_some 322 = .ok (.iload 5, 2) := by decide +kernel
theorem dX8_some_324 : decode cX8_some 324 = .ok (.iload 10, 2) := by decide +kernel
theorem dX8_some_326 : decode cX8_some 326 = .ok (.iadd, 1) := by decide +kernel
theorem dX8_some_327 : decode cX8_some 327 = .ok (.iload 6, 2) := by decide +kernel
theorem dX8_some_329 : decode cX8_some 329 = .ok (.invokevirtual 239, 3) := by decide +kernel
theorem dX8_some_332 : decode cX8_some 332 = .ok (.invokevirtual 243, 3) := by decide +kernel
theorem dX8_some_335 : decode cX8_some 335 = .ok (.ifCond .eq 5, 3) := by decide +kernel
theorem dX8_some_338 : decode cX8_some 338 = .ok (.iconst 1, 1) := by decide +kernel
theorem dX8_some_339 : decode cX8_some 339 = .ok (.ireturn, 1) := by decide +kernel
theorem dX8_some_340 : decode cX8_some 340 = .ok (.aload_n 0, 1) := by decide +kernel
theorem dX8_some_341 : decode cX8_some 341 = .ok (.getfield 67, 3) := by decide +kernel
theorem dX8_some_344 : decode cX8_some 344 = .ok (.iload 8, 2) := by decide +kernel
theorem dX8_some_346 : decode cX8_some 346 = .ok (.iconst (-1), 1) := by decide +kernel
theorem dX8_some_347 : decode cX8_some 347 = .ok (.iastore, 1) := by decide +kernel
theorem dX8_some_348 : decode cX8_some 348 = .ok (.iinc 10 1, 3) := by decide +kernel
theorem dX8_some_351 : decode cX8_some 351 = .ok (.goto (-155), 3) := by decide +kernel
theorem dX8_some_354 : decode cX8_some 354 = .ok (.iconst 0, 1) := by decide +kernel
theorem dX8_some_355 : decode cX8_some 355 = .ok (.ireturn, 1) := by decide +kernel
theorem dX8_isMatched_0 : decode cX8_isMatched 0 = .ok (.aload_n 0, 1) := by decide +kernel
theorem dX8_isMatched_1 : decode cX8_isMatched 1 = .ok (.iconst 0, 1) := by decide +kernel
theorem dX8_isMatched_2 : decode cX8_isMatched 2 = .ok (.putfield 227, 3) := by decide +kernel
theorem dX8_isMatched_5 : decode cX8_isMatched 5 = .ok (.iconst 0, 1) := by decide +kernel
theorem dX8_isMatched_6 : decode cX8_isMatched 6 = .ok (.istore_n 2, 1) := by decide +kernel
theorem dX8_isMatched_7 : decode cX8_isMatched 7 = .ok (.iload_n 2, 1) := by decide +kernel
theorem dX8_isMatched_8 : decode cX8_isMatched 8 = .ok (.bipush 26, 2) := by decide +kernel
theorem dX8_isMatched_10 : decode cX8_isMatched 10 = .ok (.if_icmp .ge 23, 3) := by decide +kernel
theorem dX8_isMatched_13 : decode cX8_isMatched 13 = .ok (.aload_n 0, 1) := by decide +kernel
theorem dX8_isMatched_14 : decode cX8_isMatched 14 = .ok (.getfield 61, 3) := by decide +kernel
theorem dX8_isMatched_17 : decode cX8_isMatched 17 = .ok (.iload_n 2, 1) := by decide +kernel
theorem dX8_isMatched_18 : decode cX8_isMatched 18 = .ok (.iconst (-1), 1) := by decide +kernel
theorem dX8_isMatched_19 : decode cX8_isMatched 19 = .ok (.iastore, 1) := by decide +kernel
theorem dX8_isMatched_20 : decode cX8_isMatched 20 = .ok (.aload_n 0, 1) := by decide +kernel
theorem dX8_isMatched_21 : decode cX8_isMatched 21 = .ok (.getfield 67, 3) := by decide +kernel
theorem dX8_isMatched_24 : decode cX8_isMatched 24 = .ok (.iload_n 2, 1) := by decide +kernel
theorem dX8_isMatched_25 : decode cX8_isMatched 25 = .ok (.iconst (-1), 1) := by decide +kernel
theorem dX8_isMatched_26 : decode cX8_isMatched 26 = .ok (.iastore, 1) := by decide +kernel
theorem dX8_isMatched_27 : decode cX8_isMatched 27 = .ok (.iinc 2 1, 3) := by decide +kernel
theorem dX8_isMatched_30 : decode cX8_isMatched 30 = .ok (.goto (-23), 3) := by decide +kernel
theorem dX8_isMatched_33 : decode cX8_isMatched 33 = .ok (.aload_n 0, 1) := by decide +kernel
theorem dX8_isMatched_34 : decode cX8_isMatched 34 = .ok (.aload_n 0, 1) := by decide +kernel
theorem dX8_isMatched_35 : decode cX8_isMatched 35 = .ok (.iconst 0, 1) := by decide +kernel
theorem dX8_isMatched_36 : decode cX8_isMatched 36 = .ok (.iconst (-1), 1) := by decide +kernel
theorem dX8_isMatched_37 : decode cX8_isMatched 37 = .ok (.iload_n 1, 1) := by decide +kernel
theorem dX8_isMatched_38 : decode cX8_isMatched 38 = .ok (.iconst 0, 1) := by decide +kernel
theorem dX8_isMatched_39 : decode cX8_isMatched 39 = .ok (.iconst (-1), 1) := by decide +kernel
theorem dX8_isMatched_40 : decode cX8_isMatched 40 = .ok (.invokevirtual 239, 3) := by decide +kernel
theorem dX8_isMatched_43 : decode cX8_isMatched 43 = .ok (.invokevirtual 243, 3) := by decide +kernel
theorem dX8_isMatched_46 : decode cX8_isMatched 46 = .ok (.ireturn, 1) := by decide +kernel
theorem dX8_all_0 : decode cX8_all 0 = .ok (.iconst 0, 1) := by decide +kernel
theorem dX8_all_1 : decode cX8_all 1 = .ok (.istore_n 1, 1) := by decide +kernel
theorem dX8_all_2 : decode cX8_all 2 = .ok (.iconst 0, 1) := by decide +kernel
theorem dX8_all_3 : decode cX8_all 3 = .ok (.istore_n 2, 1) := by decide +kernel
theorem dX8_all_4 : decode cX8_all 4 = .ok (.iload_n 2, 1) := by decide +kernel
theorem dX8_all_5 : decode cX8_all 5 = .ok (.aload_n 0, 1) := by decide +kernel
theorem dX8_all_6 : decode cX8_all 6 = .ok (.getfield 16, 3) := by decide +kernel
theorem dX8_all_9 : decode cX8_all 9 = .ok (.getfield 122, 3) := by decide +kernel
theorem dX8_all_12 : decode cX8_all 12 = .ok (.if_icmp .ge 37, 3) := by decide +kernel
theorem dX8_all_15 : decode cX8_all 15 = .ok (.aload_n 0, 1) := by decide +kernel
theorem dX8_all_16 : decode cX8_all 16 = .ok (.getfield 76, 3) := by decide +kernel
theorem dX8_all_19 : decode cX8_all 19 = .ok (.iload_n 2, 1) := by decide +kernel
theorem dX8_all_20 : decode cX8_all 20 = .ok (.aload_n 0, 1) := by decide +kernel
theorem dX8_all_21 : decode cX8_all 21 = .ok (.iload_n 2, 1) := by decide +kernel
theorem dX8_all_22 : decode cX8_all 22 = .ok (.invokevirtual 253, 3) := by decide +kernel
theorem dX8_all_25 : decode cX8_all 25 = .ok (.bastore, 1) := by decide +kernel
theorem dX8_all_26 : decode cX8_all 26 = .ok (.iload_n 1, 1) := by decide +kernel
theorem dX8_all_27 : decode cX8_all 27 = .ok (.aload_n 0, 1) := by decide +kernel
theorem dX8_all_28 : decode cX8_all 28 = .ok (.getfield 76, 3) := by decide +kernel
theorem dX8_all_31 : decode cX8_all 31 = .ok (.iload_n 2, 1) := by decide +kernel
theorem dX8_all_32 : decode cX8_all 32 = .ok (.baload, 1) := by decide +kernel
theorem dX8_all_33 : decode cX8_all 33 = .ok (.ifCond .eq 7, 3) := by decide +kernel
theorem dX8_all_36 : decode cX8_all 36 = .ok (.iconst 1, 1) := by decide +kernel
theorem dX8_all_37 : decode cX8_all 37 = .ok (.goto 4, 3) := by decide +kernel
theorem dX8_all_40 : decode cX8_all 40 = .ok (.iconst 0, 1) := by decide +kernel
theorem dX8_all_41 : decode cX8_all 41 = .ok (.iadd, 1) := by decide +kernel
theorem dX8_all_42 : decode cX8_all 42 = .ok (.istore_n 1, 1) := by decide +kernel
theorem dX8_all_43 : decode cX8_all 43 = .ok (.iinc 2 1, 3) := by decide +kernel
theorem dX8_all_46 : decode cX8_all 46 = .ok (.goto (-42), 3) := by decide +kernel
theorem dX8_all_49 : decode cX8_all 49 = .ok (.iload_n 1, 1) := by decide +kernel
theorem dX8_all_50 : decode cX8_all 50 = .ok (.ireturn, 1) := by decide +kernel
theorem dX8_matches_0 : decode cX8_matches 0 = .ok (.aload_n 0, 1) := by decide +kernel
theorem dX8_matches_1 : decode cX8_matches 1 = .ok (.iconst 0, 1) := by decide +kernel
theorem dX8_matches_2 : decode cX8_matches 2 = .ok (.putfield 103, 3) := by decide +kernel
theorem dX8_matches_5 : decode cX8_matches 5 = .ok (.aload_n 0, 1) := by decide +kernel
theorem dX8_matches_6 : decode cX8_matches 6 = .ok (.invokevirtual 256, 3) := by decide +kernel
theorem dX8_matches_9 : decode cX8_matches 9 = .ok (.ireturn, 1) := by decide +kernel
theorem dX8_match_0 : decode cX8_match 0 = .ok (.aload_n 0, 1) := by decide +kernel
theorem dX8_match_1 : decode cX8_match 1 = .ok (.iconst 0, 1) := by decide +kernel
theorem dX8_match_2 : decode cX8_match 2 = .ok (.putfield 103, 3) := by decide +kernel
theorem dX8_match_5 : decode cX8_match 5 = .ok (.aload_n 0, 1) := by decide +kernel
theorem dX8_match_6 : decode cX8_match 6 = .ok (.invokevirtual 256, 3) := by decide +kernel
theorem dX8_match_9 : decode cX8_match 9 = .ok (.istore_n 2, 1) := by decide +kernel
theorem dX8_match_10 : decode cX8_match 10 = .ok (.iconst 0, 1) := by decide +kernel
theorem dX8_match_11 : decode cX8_match 11 = .ok (.istore_n 3, 1) := by decide +kernel
theorem dX8_match_12 : decode cX8_match 12 = .ok (.iconst 0, 1) := by decide +kernel
theorem dX8_match_13 : decode cX8_match 13 = .ok (.istore 4, 2) := by decide +kernel
theorem dX8_match_15 : decode cX8_match 15 = .ok (.iload 4, 2) := by decide +kernel
theorem dX8_match_17 : decode cX8_match 17 = .ok (.aload_n 0, 1) := by decide +kernel
theorem dX8_match_18 : decode cX8_match 18 = .ok (.getfield 16, 3) := by decide +kernel
theorem dX8_match_21 : decode cX8_match 21 = .ok (.getfield 122, 3) := by decide +kernel
theorem dX8_match_24 : decode cX8_match 24 = .ok (.if_icmp .ge 33, 3) := by decide +kernel
theorem dX8_match_27 : decode cX8_match 27 = .ok (.aload_n 0, 1) := by decide +kernel
theorem dX8_match_28 : decode cX8_match 28 = .ok (.getfield 76, 3) := by decide +kernel
theorem dX8_match_31 : decode cX8_match 31 = .ok (.iload 4, 2) := by decide +kernel
theorem dX8_match_33 : decode cX8_match 33 = .ok (.baload, 1) := by decide +kernel
theorem dX8_match_34 : decode cX8_match 34 = .ok (.ifCond .ne 6, 3) := by decide +kernel
theorem dX8_match_37 : decode cX8_match 37 = .ok (.goto 14, 3) := by decide +kernel
theorem dX8_match_40 : decode cX8_match 40 = .ok (.iload_n 3, 1) := by decide +kernel
theorem dX8_match_41 : decode cX8_match 41 = .ok (.iload_n 1, 1) := by decide +kernel
theorem dX8_match_42 : decode cX8_match 42 = .ok (.if_icmp .ne 6, 3) := by decide +kernel
theorem dX8_match_45 : decode cX8_match 45 = .ok (.iload 4, 2) := by decide +kernel
theorem dX8_match_47 : decode cX8_match 47 = .ok (.ireturn, 1) := by decide +kernel
theorem dX8_match_48 : decode cX8_match 48 = .ok (.iinc 3 1, 3) := by decide +kernel
theorem dX8_match_51 : decode cX8_match 51 = .ok (.iinc 4 1, 3) := by decide +kernel
theorem dX8_match_54 : decode cX8_match 54 = .ok (.goto (-39), 3) := by decide +kernel
theorem dX8_match_57 : decode cX8_match 57 = .ok (.iconst (-1), 1) := by decide +kernel
theorem dX8_match_58 : decode cX8_match 58 = .ok (.ireturn, 1) := by decide +kernel
theorem dX8_kindOf_0 : decode cX8_kindOf 0 = .ok (.iconst 0, 1) := by decide +kernel
theorem dX8_kindOf_1 : decode cX8_kindOf 1 = .ok (.istore_n 3, 1) := by decide +kernel
theorem dX8_kindOf_2 : decode cX8_kindOf 2 = .ok (.iload_n 3, 1) := by decide +kernel
theorem dX8_kindOf_3 : decode cX8_kindOf 3 = .ok (.aload_n 1, 1) := by decide +kernel
theorem dX8_kindOf_4 : decode cX8_kindOf 4 = .ok (.getfield 122, 3) := by decide +kernel
theorem dX8_kindOf_7 : decode cX8_kindOf 7 = .ok (.if_icmp .ge 26, 3) := by decide +kernel
theorem dX8_kindOf_10 : decode cX8_kindOf 10 = .ok (.aload_n 1, 1) := by decide +kernel
theorem dX8_kindOf_11 : decode cX8_kindOf 11 = .ok (.getfield 140, 3) := by decide +kernel
theorem dX8_kindOf_14 : decode cX8_kindOf 14 = .ok (.iload_n 3, 1) := by decide +kernel
theorem dX8_kindOf_15 : decode cX8_kindOf 15 = .ok (.iaload, 1) := by decide +kernel
theorem dX8_kindOf_16 : decode cX8_kindOf 16 = .ok (.iload_n 2, 1) := by decide +kernel
theorem dX8_kindOf_17 : decode cX8_kindOf 17 = .ok (.if_icmp .ne 10, 3) := by decide +kernel
theorem dX8_kindOf_20 : decode cX8_kindOf 20 = .ok (.aload_n 1, 1) := by decide +kernel
theorem dX8_kindOf_21 : decode cX8_kindOf 21 = .ok (.getfield 125, 3) := by decide +kernel
theorem dX8_kindOf_24 : decode cX8_kindOf 24 = .ok (.iload_n 3, 1) := by decide +kernel
theorem dX8_kindOf_25 : decode cX8_kindOf 25 = .ok (.iaload, 1) := by decide +kernel
theorem dX8_kindOf_26 : decode cX8_kindOf 26 = .ok (.ireturn, 1) := by decide +kernel
theorem dX8_kindOf_27 : decode cX8_kindOf 27 = .ok (.iinc 3 1, 3) := by decide +kernel
theorem dX8_kindOf_30 : decode cX8_kindOf 30 = .ok (.goto (-28), 3) := by decide +kernel
theorem dX8_kindOf_33 : decode cX8_kindOf 33 = .ok (.iconst (-1), 1) := by decide +kernel
theorem dX8_kindOf_34 : decode cX8_kindOf 34 = .ok (.ireturn, 1) := by decide +kernel
theorem dX8_hole_0 : decode cX8_hole 0 = .ok (.aload_n 0, 1) := by decide +kernel
theorem dX8_hole_1 : decode cX8_hole 1 = .ok (.iconst 0, 1) := by decide +kernel
theorem dX8_hole_2 : decode cX8_hole 2 = .ok (.putfield 103, 3) := by decide +kernel
theorem dX8_hole_5 : decode cX8_hole 5 = .ok (.aload_n 0, 1) := by decide +kernel
theorem dX8_hole_6 : decode cX8_hole 6 = .ok (.iload_n 1, 1) := by decide +kernel
theorem dX8_hole_7 : decode cX8_hole 7 = .ok (.invokevirtual 224, 3) := by decide +kernel
theorem dX8_hole_10 : decode cX8_hole 10 = .ok (.ifCond .eq 34, 3) := by decide +kernel
theorem dX8_hole_13 : decode cX8_hole 13 = .ok (.iload_n 2, 1) := by decide +kernel
theorem dX8_hole_14 : decode cX8_hole 14 = .ok (.iconst 0, 1) := by decide +kernel
theorem dX8_hole_15 : decode cX8_hole 15 = .ok (.bipush 25, 2) := by decide +kernel
theorem dX8_hole_17 : decode cX8_hole 17 = .ok (.invokestatic 202, 3) := by decide +kernel
theorem dX8_hole_20 : decode cX8_hole 20 = .ok (.ifCond .eq 24, 3) := by decide +kernel
theorem dX8_hole_23 : decode cX8_hole 23 = .ok (.aload_n 0, 1) := by decide +kernel
theorem dX8_hole_24 : decode cX8_hole 24 = .ok (.aload_n 0, 1) := by decide +kernel
theorem dX8_hole_25 : decode cX8_hole 25 = .ok (.getfield 20, 3) := by decide +kernel
theorem dX8_hole_28 : decode cX8_hole 28 = .ok (.iload_n 2, 1) := by decide +kernel
theorem dX8_hole_29 : decode cX8_hole 29 = .ok (.invokevirtual 259, 3) := by decide +kernel
theorem dX8_hole_32 : decode cX8_hole 32 = .ok (.iconst (-1), 1) := by decide +kernel
theorem dX8_hole_33 : decode cX8_hole 33 = .ok (.if_icmp .eq 11, 3) := by decide +kernel
theorem dX8_hole_36 : decode cX8_hole 36 = .ok (.aload_n 0, 1) := by decide +kernel
theorem dX8_hole_37 : decode cX8_hole 37 = .ok (.iload_n 1, 1) := by decide +kernel
theorem dX8_hole_38 : decode cX8_hole 38 = .ok (.invokevirtual 253, 3) := by decide +kernel
theorem dX8_hole_41 : decode cX8_hole 41 = .ok (.ifCond .ne 5, 3) := by decide +kernel
theorem dX8_hole_44 : decode cX8_hole 44 = .ok (.iconst (-1), 1) := by decide +kernel
theorem dX8_hole_45 : decode cX8_hole 45 = .ok (.ireturn, 1) := by decide +kernel
theorem dX8_hole_46 : decode cX8_hole 46 = .ok (.aload_n 0, 1) := by decide +kernel
theorem dX8_hole_47 : decode cX8_hole 47 = .ok (.aload_n 0, 1) := by decide +kernel
theorem dX8_hole_48 : decode cX8_hole 48 = .ok (.getfield 20, 3) := by decide +kernel
theorem dX8_hole_51 : decode cX8_hole 51 = .ok (.iload_n 2, 1) := by decide +kernel
theorem dX8_hole_52 : decode cX8_hole 52 = .ok (.invokevirtual 259, 3) := by decide +kernel
theorem dX8_hole_55 : decode cX8_hole 55 = .ok (.iconst 1, 1) := by decide +kernel
theorem dX8_hole_56 : decode cX8_hole 56 = .ok (.if_icmp .ne 12, 3) := by decide +kernel
theorem dX8_hole_59 : decode cX8_hole 59 = .ok (.aload_n 0, 1) := by decide +kernel
theorem dX8_hole_60 : decode cX8_hole 60 = .ok (.getfield 61, 3) := by decide +kernel
theorem dX8_hole_63 : decode cX8_hole 63 = .ok (.iload_n 2, 1) := by decide +kernel
theorem dX8_hole_64 : decode cX8_hole 64 = .ok (.iaload, 1) := by decide +kernel
theorem dX8_hole_65 : decode cX8_hole 65 = .ok (.goto 22, 3) := by decide +kernel
theorem dX8_hole_68 : decode cX8_hole 68 = .ok (.aload_n 0, 1) := by decide +kernel
theorem dX8_hole_69 : decode cX8_hole 69 = .ok (.getfield 67, 3) := by decide +kernel
theorem dX8_hole_72 : decode cX8_hole 72 = .ok (.iload_n 2, 1) := by decide +kernel
theorem dX8_hole_73 : decode cX8_hole 73 = .ok (.iaload, 1) := by decide +kernel
theorem dX8_hole_74 : decode cX8_hole 74 = .ok (.ifCond .ne 7, 3) := by decide +kernel
theorem dX8_hole_77 : decode cX8_hole 77 = .ok (.iconst (-1), 1) := by decide +kernel
theorem dX8_hole_78 : decode cX8_hole 78 = .ok (.goto 9, 3) := by decide +kernel
theorem dX8_hole_81 : decode cX8_hole 81 = .ok (.aload_n 0, 1) := by decide +kernel
theorem dX8_hole_82 : decode cX8_hole 82 = .ok (.getfield 64, 3) := by decide +kernel
theorem dX8_hole_85 : decode cX8_hole 85 = .ok (.iload_n 2, 1) := by decide +kernel
theorem dX8_hole_86 : decode cX8_hole 86 = .ok (.iaload, 1) := by decide +kernel
theorem dX8_hole_87 : decode cX8_hole 87 = .ok (.ireturn, 1) := by decide +kernel
theorem dX8_row_0 : decode cX8_row 0 = .ok (.aload_n 0, 1) := by decide +kernel
theorem dX8_row_1 : decode cX8_row 1 = .ok (.iconst 0, 1) := by decide +kernel
theorem dX8_row_2 : decode cX8_row 2 = .ok (.putfield 103, 3) := by decide +kernel
theorem dX8_row_5 : decode cX8_row 5 = .ok (.aload_n 0, 1) := by decide +kernel
theorem dX8_row_6 : decode cX8_row 6 = .ok (.iload_n 1, 1) := by decide +kernel
theorem dX8_row_7 : decode cX8_row 7 = .ok (.invokevirtual 224, 3) := by decide +kernel
theorem dX8_row_10 : decode cX8_row 10 = .ok (.ifCond .eq 34, 3) := by decide +kernel
theorem dX8_row_13 : decode cX8_row 13 = .ok (.iload_n 2, 1) := by decide +kernel
theorem dX8_row_14 : decode cX8_row 14 = .ok (.iconst 0, 1) := by decide +kernel
theorem dX8_row_15 : decode cX8_row 15 = .ok (.bipush 25, 2) := by decide +kernel
theorem dX8_row_17 : decode cX8_row 17 = .ok (.invokestatic 202, 3) := by decide +kernel
theorem dX8_row_20 : decode cX8_row 20 = .ok (.ifCond .eq 24, 3) := by decide +kernel
theorem dX8_row_23 : decode cX8_row 23 = .ok (.aload_n 0, 1) := by decide +kernel
theorem dX8_row_24 : decode cX8_row 24 = .ok (.aload_n 0, 1) := by decide +kernel
theorem dX8_row_25 : decode cX8_row 25 = .ok (.getfield 20, 3) := by decide +kernel
theorem dX8_row_28 : decode cX8_row 28 = .ok (.iload_n 2, 1) := by decide +kernel
theorem dX8_row_29 : decode cX8_row 29 = .ok (.invokevirtual 259, 3) := by decide +kernel
theorem dX8_row_32 : decode cX8_row 32 = .ok (.iconst (-1), 1) := by decide +kernel
theorem dX8_row_33 : decode cX8_row 33 = .ok (.if_icmp .eq 11, 3) := by decide +kernel
theorem dX8_row_36 : decode cX8_row 36 = .ok (.aload_n 0, 1) := by decide +kernel
theorem dX8_row_37 : decode cX8_row 37 = .ok (.iload_n 1, 1) := by decide +kernel
theorem dX8_row_38 : decode cX8_row 38 = .ok (.invokevirtual 253, 3) := by decide +kernel
theorem dX8_row_41 : decode cX8_row 41 = .ok (.ifCond .ne 5, 3) := by decide +kernel
theorem dX8_row_44 : decode cX8_row 44 = .ok (.iconst (-1), 1) := by decide +kernel
theorem dX8_row_45 : decode cX8_row 45 = .ok (.ireturn, 1) := by decide +kernel
theorem dX8_row_46 : decode cX8_row 46 = .ok (.aload_n 0, 1) := by decide +kernel
theorem dX8_row_47 : decode cX8_row 47 = .ok (.aload_n 0, 1) := by decide +kernel
theorem dX8_row_48 : decode cX8_row 48 = .ok (.getfield 20, 3) := by decide +kernel
theorem dX8_row_51 : decode cX8_row 51 = .ok (.iload_n 2, 1) := by decide +kernel
theorem dX8_row_52 : decode cX8_row 52 = .ok (.invokevirtual 259, 3) := by decide +kernel
theorem dX8_row_55 : decode cX8_row 55 = .ok (.iconst 1, 1) := by decide +kernel
theorem dX8_row_56 : decode cX8_row 56 = .ok (.if_icmp .ne 7, 3) := by decide +kernel
theorem dX8_row_59 : decode cX8_row 59 = .ok (.iconst 1, 1) := by decide +kernel
theorem dX8_row_60 : decode cX8_row 60 = .ok (.goto 9, 3) := by decide +kernel
theorem dX8_row_63 : decode cX8_row 63 = .ok (.aload_n 0, 1) := by decide +kernel
theorem dX8_row_64 : decode cX8_row 64 = .ok (.getfield 67, 3) := by decide +kernel
theorem dX8_row_67 : decode cX8_row 67 = .ok (.iload_n 2, 1) := by decide +kernel
theorem dX8_row_68 : decode cX8_row 68 = .ok (.iaload, 1) := by decide +kernel
theorem dX8_row_69 : decode cX8_row 69 = .ok (.ireturn, 1) := by decide +kernel
theorem dX8_takeBy_0 : decode cX8_takeBy 0 = .ok (.aload_n 0, 1) := by decide +kernel
theorem dX8_takeBy_1 : decode cX8_takeBy 1 = .ok (.invokevirtual 256, 3) := by decide +kernel
theorem dX8_takeBy_4 : decode cX8_takeBy 4 = .ok (.istore_n 2, 1) := by decide +kernel
theorem dX8_takeBy_5 : decode cX8_takeBy 5 = .ok (.iconst 0, 1) := by decide +kernel
theorem dX8_takeBy_6 : decode cX8_takeBy 6 = .ok (.istore_n 3, 1) := by decide +kernel
theorem dX8_takeBy_7 : decode cX8_takeBy 7 = .ok (.iload_n 3, 1) := by decide +kernel
theorem dX8_takeBy_8 : decode cX8_takeBy 8 = .ok (.aload_n 0, 1) := by decide +kernel
theorem dX8_takeBy_9 : decode cX8_takeBy 9 = .ok (.getfield 16, 3) := by decide +kernel
theorem dX8_takeBy_12 : decode cX8_takeBy 12 = .ok (.getfield 122, 3) := by decide +kernel
theorem dX8_takeBy_15 : decode cX8_takeBy 15 = .ok (.if_icmp .ge 16, 3) := by decide +kernel
theorem dX8_takeBy_18 : decode cX8_takeBy 18 = .ok (.aload_n 0, 1) := by decide +kernel
theorem dX8_takeBy_19 : decode cX8_takeBy 19 = .ok (.getfield 79, 3) := by decide +kernel
theorem dX8_takeBy_22 : decode cX8_takeBy 22 = .ok (.iload_n 3, 1) := by decide +kernel
theorem dX8_takeBy_23 : decode cX8_takeBy 23 = .ok (.iconst 0, 1) := by decide +kernel
theorem dX8_takeBy_24 : decode cX8_takeBy 24 = .ok (.bastore, 1) := by decide +kernel
theorem dX8_takeBy_25 : decode cX8_takeBy 25 = .ok (.iinc 3 1, 3) := by decide +kernel
theorem dX8_takeBy_28 : decode cX8_takeBy 28 = .ok (.goto (-21), 3) := by decide +kernel
theorem dX8_takeBy_31 : decode cX8_takeBy 31 = .ok (.iload_n 1, 1) := by decide +kernel
theorem dX8_takeBy_32 : decode cX8_takeBy 32 = .ok (.iconst 2, 1) := by decide +kernel
theorem dX8_takeBy_33 : decode cX8_takeBy 33 = .ok (.if_icmp .ge 132, 3) := by decide +kernel
theorem dX8_takeBy_36 : decode cX8_takeBy 36 = .ok (.iconst 0, 1) := by decide +kernel
theorem dX8_takeBy_37 : decode cX8_takeBy 37 = .ok (.istore_n 3, 1) := by decide +kernel
theorem dX8_takeBy_38 : decode cX8_takeBy 38 = .ok (.iload_n 3, 1) := by decide +kernel
theorem dX8_takeBy_39 : decode cX8_takeBy 39 = .ok (.aload_n 0, 1) := by decide +kernel
theorem dX8_takeBy_40 : decode cX8_takeBy 40 = .ok (.getfield 16, 3) := by decide +kernel
theorem dX8_takeBy_43 : decode cX8_takeBy 43 = .ok (.getfield 122, 3) := by decide +kernel
theorem dX8_takeBy_46 : decode cX8_takeBy 46 = .ok (.if_icmp .ge 116, 3) := by decide +kernel
theorem dX8_takeBy_49 : decode cX8_takeBy 49 = .ok (.aload_n 0, 1) := by decide +kernel
theorem dX8_takeBy_50 : decode cX8_takeBy 50 = .ok (.getfield 76, 3) := by decide +kernel
theorem dX8_takeBy_53 : decode cX8_takeBy 53 = .ok (.iload_n 3, 1) := by decide +kernel
theorem dX8_takeBy_54 : decode cX8_takeBy 54 = .ok (.baload, 1) := by decide +kernel
theorem dX8_takeBy_55 : decode cX8_takeBy 55 = .ok (.ifCond .ne 6, 3) := by decide +kernel
theorem dX8_takeBy_58 : decode cX8_takeBy 58 = .ok (.goto 98, 3) := by decide +kernel
theorem dX8_takeBy_61 : decode cX8_takeBy 61 = .ok (.iconst 0, 1) := by decide +kernel
theorem dX8_takeBy_62 : decode cX8_takeBy 62 = .ok (.istore 4, 2) := by decide +kernel
theorem dX8_takeBy_64 : decode cX8_takeBy 64 = .ok (.iconst 0, 1) := by decide +kernel
theorem dX8_takeBy_65 : decode cX8_takeBy 65 = .ok (.istore 5, 2) := by decide +kernel
theorem dX8_takeBy_67 : decode cX8_takeBy 67 = .ok (.iload 5, 2) := by decide +kernel
theorem dX8_takeBy_69 : decode cX8_takeBy 69 = .ok (.aload_n 0, 1) := by decide +kernel
theorem dX8_takeBy_70 : decode cX8_takeBy 70 = .ok (.getfield 16, 3) := by decide +kernel
theorem dX8_takeBy_73 : decode cX8_takeBy 73 = .ok (.getfield 122, 3) := by decide +kernel
theorem dX8_takeBy_76 : decode cX8_takeBy 76 = .ok (.if_icmp .ge 64, 3) := by decide +kernel
theorem dX8_takeBy_79 : decode cX8_takeBy 79 = .ok (.iload 4, 2) := by decide +kernel
theorem dX8_takeBy_81 : decode cX8_takeBy 81 = .ok (.ifCond .ne 46, 3) := by decide +kernel
theorem dX8_takeBy_84 : decode cX8_takeBy 84 = .ok (.iload 5, 2) := by decide +kernel
theorem dX8_takeBy_86 : decode cX8_takeBy 86 = .ok (.iload_n 3, 1) := by decide +kernel
theorem dX8_takeBy_87 : decode cX8_takeBy 87 = .ok (.if_icmp .eq 44, 3) := by decide +kernel
theorem dX8_takeBy_90 : decode cX8_takeBy 90 = .ok (.aload_n 0, 1) := by decide +kernel
theorem dX8_takeBy_91 : decode cX8_takeBy 91 = .ok (.getfield 76, 3) := by decide +kernel
theorem dX8_takeBy_94 : decode cX8_takeBy 94 = .ok (.iload 5, 2) := by decide +kernel
theorem dX8_takeBy_96 : decode cX8_takeBy 96 = .ok (.baload, 1) := by decide +kernel
theorem dX8_takeBy_97 : decode cX8_takeBy 97 = .ok (.ifCond .eq 34, 3) := by decide +kernel
theorem dX8_takeBy_100 : decode cX8_takeBy 100 = .ok (.iload_n 1, 1) := by decide +kernel
theorem dX8_takeBy_101 : decode cX8_takeBy 101 = .ok (.ifCond .ne 16, 3) := by decide +kernel
theorem dX8_takeBy_104 : decode cX8_takeBy 104 = .ok (.aload_n 0, 1) := by decide +kernel
theorem dX8_takeBy_105 : decode cX8_takeBy 105 = .ok (.iload_n 3, 1) := by decide +kernel
theorem dX8_takeBy_106 : decode cX8_takeBy 106 = .ok (.iload 5, 2) := by decide +kernel
theorem dX8_takeBy_108 : decode cX8_takeBy 108 = .ok (.invokevirtual 246, 3) := by decide +kernel
theorem dX8_takeBy_111 : decode cX8_takeBy 111 = .ok (.ifCond .eq 20, 3) := by decide +kernel
theorem dX8_takeBy_114 : decode cX8_takeBy 114 = .ok (.goto 13, 3) := by decide +kernel
theorem dX8_takeBy_117 : decode cX8_takeBy 117 = .ok (.aload_n 0, 1) := by decide +kernel
theorem dX8_takeBy_118 : decode cX8_takeBy 118 = .ok (.iload 5, 2) := by decide +kernel
theorem dX8_takeBy_120 : decode cX8_takeBy 120 = .ok (.iload_n 3, 1) := by decide +kernel
theorem dX8_takeBy_121 : decode cX8_takeBy 121 = .ok (.invokevirtual 246, 3) := by decide +kernel
theorem dX8_takeBy_124 : decode cX8_takeBy 124 = .ok (.ifCond .eq 7, 3) := by decide +kernel
theorem dX8_takeBy_127 : decode cX8_takeBy 127 = .ok (.iconst 1, 1) := by decide +kernel
theorem dX8_takeBy_128 : decode cX8_takeBy 128 = .ok (.goto 4, 3) := by decide +kernel
theorem dX8_takeBy_131 : decode cX8_takeBy 131 = .ok (.iconst 0, 1) := by decide +kernel
theorem dX8_takeBy_132 : decode cX8_takeBy 132 = .ok (.istore 4, 2) := by decide +kernel
theorem dX8_takeBy_134 : decode cX8_takeBy 134 = .ok (.iinc 5 1, 3) := by decide +kernel
theorem dX8_takeBy_137 : decode cX8_takeBy 137 = .ok (.goto (-70), 3) := by decide +kernel
theorem dX8_takeBy_140 : decode cX8_takeBy 140 = .ok (.aload_n 0, 1) := by decide +kernel
theorem dX8_takeBy_141 : decode cX8_takeBy 141 = .ok (.getfield 79, 3) := by decide +kernel
theorem dX8_takeBy_144 : decode cX8_takeBy 144 = .ok (.iload_n 3, 1) := by decide +kernel
theorem dX8_takeBy_145 : decode cX8_takeBy 145 = .ok (.iload 4, 2) := by decide +kernel
theorem dX8_takeBy_147 : decode cX8_takeBy 147 = .ok (.ifCond .ne 7, 3) := by decide +kernel
theorem dX8_takeBy_150 : decode cX8_takeBy 150 = .ok (.iconst 1, 1) := by decide +kernel
theorem dX8_takeBy_151 : decode cX8_takeBy 151 = .ok (.goto 4, 3) := by decide +kernel
theorem dX8_takeBy_154 : decode cX8_takeBy 154 = .ok (.iconst 0, 1) := by decide +kernel
theorem dX8_takeBy_155 : decode cX8_takeBy 155 = .ok (.bastore, 1) := by decide +kernel
theorem dX8_takeBy_156 : decode cX8_takeBy 156 = .ok (.iinc 3 1, 3) := by decide +kernel
theorem dX8_takeBy_159 : decode cX8_takeBy 159 = .ok (.goto (-121), 3) := by decide +kernel
theorem dX8_takeBy_162 : decode cX8_takeBy 162 = .ok (.goto 151, 3) := by decide +kernel
theorem dX8_takeBy_165 : decode cX8_takeBy 165 = .ok (.aload_n 0, 1) := by decide +kernel
theorem dX8_takeBy_166 : decode cX8_takeBy 166 = .ok (.getfield 16, 3) := by decide +kernel
theorem dX8_takeBy_169 : decode cX8_takeBy 169 = .ok (.getfield 122, 3) := by decide +kernel
theorem dX8_takeBy_172 : decode cX8_takeBy 172 = .ok (.iconst 1, 1) := by decide +kernel
theorem dX8_takeBy_173 : decode cX8_takeBy 173 = .ok (.isub, 1) := by decide +kernel
theorem dX8_takeBy_174 : decode cX8_takeBy 174 = .ok (.istore_n 3, 1) := by decide +kernel
theorem dX8_takeBy_175 : decode cX8_takeBy 175 = .ok (.iload_n 3, 1) := by decide +kernel
theorem dX8_takeBy_176 : decode cX8_takeBy 176 = .ok (.ifCond .lt 137, 3) := by decide +kernel
theorem dX8_takeBy_179 : decode cX8_takeBy 179 = .ok (.aload_n 0, 1) := by decide +kernel
theorem dX8_takeBy_180 : decode cX8_takeBy 180 = .ok (.getfield 82, 3) := by decide +kernel
theorem dX8_takeBy_183 : decode cX8_takeBy 183 = .ok (.iload_n 3, 1) := by decide +kernel
theorem dX8_takeBy_184 : decode cX8_takeBy 184 = .ok (.iconst 0, 1) := by decide +kernel
theorem dX8_takeBy_185 : decode cX8_takeBy 185 = .ok (.iastore, 1) := by decide +kernel
theorem dX8_takeBy_186 : decode cX8_takeBy 186 = .ok (.iconst 0, 1) := by decide +kernel
theorem dX8_takeBy_187 : decode cX8_takeBy 187 = .ok (.istore 4, 2) := by decide +kernel
theorem dX8_takeBy_189 : decode cX8_takeBy 189 = .ok (.iload 4, 2) := by decide +kernel
theorem dX8_takeBy_191 : decode cX8_takeBy 191 = .ok (.aload_n 0, 1) := by decide +kernel
theorem dX8_takeBy_192 : decode cX8_takeBy 192 = .ok (.getfield 16, 3) := by decide +kernel
theorem dX8_takeBy_195 : decode cX8_takeBy 195 = .ok (.getfield 134, 3) := by decide +kernel
theorem dX8_takeBy_198 : decode cX8_takeBy 198 = .ok (.iload_n 3, 1) := by decide +kernel
theorem dX8_takeBy_199 : decode cX8_takeBy 199 = .ok (.iaload, 1) := by decide +kernel
theorem dX8_takeBy_200 : decode cX8_takeBy 200 = .ok (.if_icmp .ge 33, 3) := by decide +kernel
theorem dX8_takeBy_203 : decode cX8_takeBy 203 = .ok (.aload_n 0, 1) := by decide +kernel
theorem dX8_takeBy_204 : decode cX8_takeBy 204 = .ok (.getfield 82, 3) := by decide +kernel
theorem dX8_takeBy_207 : decode cX8_takeBy 207 = .ok (.iload_n 3, 1) := by decide +kernel
theorem dX8_takeBy_208 : decode cX8_takeBy 208 = .ok (.dup2, 1) := by decide +kernel
theorem dX8_takeBy_209 : decode cX8_takeBy 209 = .ok (.iaload, 1) := by decide +kernel
theorem dX8_takeBy_210 : decode cX8_takeBy 210 = .ok (.aload_n 0, 1) := by decide +kernel
theorem dX8_takeBy_211 : decode cX8_takeBy 211 = .ok (.getfield 82, 3) := by decide +kernel
theorem dX8_takeBy_214 : decode cX8_takeBy 214 = .ok (.aload_n 0, 1) := by decide +kernel
theorem dX8_takeBy_215 : decode cX8_takeBy 215 = .ok (.getfield 16, 3) := by decide +kernel
theorem dX8_takeBy_218 : decode cX8_takeBy 218 = .ok (.iload_n 3, 1) := by decide +kernel
theorem dX8_takeBy_219 : decode cX8_takeBy 219 = .ok (.iload 4, 2) := by decide +kernel
theorem dX8_takeBy_221 : decode cX8_takeBy 221 = .ok (.invokevirtual 219, 3) := by decide +kernel
theorem dX8_takeBy_224 : decode cX8_takeBy 224 = .ok (.iaload, 1) := by decide +kernel
theorem dX8_takeBy_225 : decode cX8_takeBy 225 = .ok (.iadd, 1) := by decide +kernel
theorem dX8_takeBy_226 : decode cX8_takeBy 226 = .ok (.iastore, 1) := by decide +kernel
theorem dX8_takeBy_227 : decode cX8_takeBy 227 = .ok (.iinc 4 1, 3) := by decide +kernel
theorem dX8_takeBy_230 : decode cX8_takeBy 230 = .ok (.goto (-41), 3) := by decide +kernel
theorem dX8_takeBy_233 : decode cX8_takeBy 233 = .ok (.aload_n 0, 1) := by decide +kernel
theorem dX8_takeBy_234 : decode cX8_takeBy 234 = .ok (.getfield 76, 3) := by decide +kernel
theorem dX8_takeBy_237 : decode cX8_takeBy 237 = .ok (.iload_n 3, 1) := by decide +kernel
theorem dX8_takeBy_238 : decode cX8_takeBy 238 = .ok (.baload, 1) := by decide +kernel
theorem dX8_takeBy_239 : decode cX8_takeBy 239 = .ok (.ifCond .eq 68, 3) := by decide +kernel
theorem dX8_takeBy_242 : decode cX8_takeBy 242 = .ok (.aload_n 0, 1) := by decide +kernel
theorem dX8_takeBy_243 : decode cX8_takeBy 243 = .ok (.getfield 82, 3) := by decide +kernel
theorem dX8_takeBy_246 : decode cX8_takeBy 246 = .ok (.iload_n 3, 1) := by decide +kernel
theorem dX8_takeBy_247 : decode cX8_takeBy 247 = .ok (.iaload, 1) := by decide +kernel
theorem dX8_takeBy_248 : decode cX8_takeBy 248 = .ok (.iconst 1, 1) := by decide +kernel
theorem dX8_takeBy_249 : decode cX8_takeBy 249 = .ok (.if_icmp .gt 58, 3) := by decide +kernel
theorem dX8_takeBy_252 : decode cX8_takeBy 252 = .ok (.aload_n 0, 1) := by decide +kernel
theorem dX8_takeBy_253 : decode cX8_takeBy 253 = .ok (.getfield 82, 3) := by decide +kernel
theorem dX8_takeBy_256 : decode cX8_takeBy 256 = .ok (.iload_n 3, 1) := by decide +kernel
theorem dX8_takeBy_257 : decode cX8_takeBy 257 = .ok (.iconst 1, 1) := by decide +kernel
theorem dX8_takeBy_258 : decode cX8_takeBy 258 = .ok (.iastore, 1) := by decide +kernel
theorem dX8_takeBy_259 : decode cX8_takeBy 259 = .ok (.iload_n 3, 1) := by decide +kernel
theorem dX8_takeBy_260 : decode cX8_takeBy 260 = .ok (.iconst 1, 1) := by decide +kernel
theorem dX8_takeBy_261 : decode cX8_takeBy 261 = .ok (.iadd, 1) := by decide +kernel
theorem dX8_takeBy_262 : decode cX8_takeBy 262 = .ok (.istore 4, 2) := by decide +kernel
theorem dX8_takeBy_264 : decode cX8_takeBy 264 = .ok (.iload 4, 2) := by decide +kernel
theorem dX8_takeBy_266 : decode cX8_takeBy 266 = .ok (.aload_n 0, 1) := by decide +kernel
theorem dX8_takeBy_267 : decode cX8_takeBy 267 = .ok (.getfield 16, 3) := by decide +kernel
theorem dX8_takeBy_270 : decode cX8_takeBy 270 = .ok (.getfield 122, 3) := by decide +kernel
theorem dX8_takeBy_273 : decode cX8_takeBy 273 = .ok (.if_icmp .ge 27, 3) := by decide +kernel
theorem dX8_takeBy_276 : decode cX8_takeBy 276 = .ok (.aload_n 0, 1) := by decide +kernel
theorem dX8_takeBy_277 : decode cX8_takeBy 277 = .ok (.iload 4, 2) := by decide +kernel
theorem dX8_takeBy_279 : decode cX8_takeBy 279 = .ok (.iload_n 3, 1) := by decide +kernel
theorem dX8_takeBy_280 : decode cX8_takeBy 280 = .ok (.invokevirtual 246, 3) := by decide +kernel
theorem dX8_takeBy_283 : decode cX8_takeBy 283 = .ok (.ifCond .eq 17, 3) := by decide +kernel
theorem dX8_takeBy_286 : decode cX8_takeBy 286 = .ok (.aload_n 0, 1) := by decide +kernel
theorem dX8_takeBy_287 : decode cX8_takeBy 287 = .ok (.getfield 79, 3) := by decide +kernel
theorem dX8_takeBy_290 : decode cX8_takeBy 290 = .ok (.iload 4, 2) := by decide +kernel
theorem dX8_takeBy_292 : decode cX8_takeBy 292 = .ok (.iconst 0, 1) := by decide +kernel
theorem dX8_takeBy_293 : decode cX8_takeBy 293 = .ok (.bastore, 1) := by decide +kernel
theorem dX8_takeBy_294 : decode cX8_takeBy 294 = .ok (.iinc 4 1, 3) := by decide +kernel
theorem dX8_takeBy_297 : decode cX8_takeBy 297 = .ok (.goto (-33), 3) := by decide +kernel
theorem dX8_takeBy_300 : decode cX8_takeBy 300 = .ok (.aload_n 0, 1) := by decide +kernel
theorem dX8_takeBy_301 : decode cX8_takeBy 301 = .ok (.getfield 79, 3) := by decide +kernel
theorem dX8_takeBy_304 : decode cX8_takeBy 304 = .ok (.iload_n 3, 1) := by decide +kernel
theorem dX8_takeBy_305 : decode cX8_takeBy 305 = .ok (.iconst 1, 1) := by decide +kernel
theorem dX8_takeBy_306 : decode cX8_takeBy 306 = .ok (.bastore, 1) := by decide +kernel
theorem dX8_takeBy_307 : decode cX8_takeBy 307 = .ok (.iinc 3 (-1), 3) := by decide +kernel
theorem dX8_takeBy_310 : decode cX8_takeBy 310 = .ok (.goto (-135), 3) := by decide +kernel
theorem dX8_takeBy_313 : decode cX8_takeBy 313 = .ok (.iconst 0, 1) := by decide +kernel
theorem dX8_takeBy_314 : decode cX8_takeBy 314 = .ok (.istore_n 3, 1) := by decide +kernel
theorem dX8_takeBy_315 : decode cX8_takeBy 315 = .ok (.iconst 0, 1) := by decide +kernel
theorem dX8_takeBy_316 : decode cX8_takeBy 316 = .ok (.istore 4, 2) := by decide +kernel
theorem dX8_takeBy_318 : decode cX8_takeBy 318 = .ok (.iload 4, 2) := by decide +kernel
theorem dX8_takeBy_320 : decode cX8_takeBy 320 = .ok (.aload_n 0, 1) := by decide +kernel
theorem dX8_takeBy_321 : decode cX8_takeBy 321 = .ok (.getfield 16, 3) := by decide +kernel
theorem dX8_takeBy_324 : decode cX8_takeBy 324 = .ok (.getfield 122, 3) := by decide +kernel
theorem dX8_takeBy_327 : decode cX8_takeBy 327 = .ok (.if_icmp .ge 27, 3) := by decide +kernel
theorem dX8_takeBy_330 : decode cX8_takeBy 330 = .ok (.iload_n 3, 1) := by decide +kernel
theorem dX8_takeBy_331 : decode cX8_takeBy 331 = .ok (.aload_n 0, 1) := by decide +kernel
theorem dX8_takeBy_332 : decode cX8_takeBy 332 = .ok (.getfield 79, 3) := by decide +kernel
theorem dX8_takeBy_335 : decode cX8_takeBy 335 = .ok (.iload 4, 2) := by decide +kernel
theorem dX8_takeBy_337 : decode cX8_takeBy 337 = .ok (.baload, 1) := by decide +kernel
theorem dX8_takeBy_338 : decode cX8_takeBy 338 = .ok (.ifCond .eq 7, 3) := by decide +kernel
theorem dX8_takeBy_341 : decode cX8_takeBy 341 = .ok (.iconst 1, 1) := by decide +kernel
theorem dX8_takeBy_342 : decode cX8_takeBy 342 = .ok (.goto 4, 3) := by decide +kernel
theorem dX8_takeBy_345 : decode cX8_takeBy 345 = .ok (.iconst 0, 1) := by decide +kernel
theorem dX8_takeBy_346 : decode cX8_takeBy 346 = .ok (.iadd, 1) := by decide +kernel
theorem dX8_takeBy_347 : decode cX8_takeBy 347 = .ok (.istore_n 3, 1) := by decide +kernel
theorem dX8_takeBy_348 : decode cX8_takeBy 348 = .ok (.iinc 4 1, 3) := by decide +kernel
theorem dX8_takeBy_351 : decode cX8_takeBy 351 = .ok (.goto (-33), 3) := by decide +kernel
theorem dX8_takeBy_354 : decode cX8_takeBy 354 = .ok (.iload_n 3, 1) := by decide +kernel
theorem dX8_takeBy_355 : decode cX8_takeBy 355 = .ok (.ireturn, 1) := by decide +kernel
theorem dX8_taken_0 : decode cX8_taken 0 = .ok (.aload_n 0, 1) := by decide +kernel
theorem dX8_taken_1 : decode cX8_taken 1 = .ok (.iconst 0, 1) := by decide +kernel
theorem dX8_taken_2 : decode cX8_taken 2 = .ok (.putfield 103, 3) := by decide +kernel
theorem dX8_taken_5 : decode cX8_taken 5 = .ok (.iload_n 1, 1) := by decide +kernel
theorem dX8_taken_6 : decode cX8_taken 6 = .ok (.iconst 0, 1) := by decide +kernel
theorem dX8_taken_7 : decode cX8_taken 7 = .ok (.iconst 2, 1) := by decide +kernel
theorem dX8_taken_8 : decode cX8_taken 8 = .ok (.invokestatic 202, 3) := by decide +kernel
theorem dX8_taken_11 : decode cX8_taken 11 = .ok (.ifCond .eq 11, 3) := by decide +kernel
theorem dX8_taken_14 : decode cX8_taken 14 = .ok (.aload_n 0, 1) := by decide +kernel
theorem dX8_taken_15 : decode cX8_taken 15 = .ok (.iload_n 1, 1) := by decide +kernel
theorem dX8_taken_16 : decode cX8_taken 16 = .ok (.invokevirtual 263, 3) := by decide +kernel
theorem dX8_taken_19 : decode cX8_taken 19 = .ok (.goto 4, 3) := by decide +kernel
theorem dX8_taken_22 : decode cX8_taken 22 = .ok (.iconst (-1), 1) := by decide +kernel
theorem dX8_taken_23 : decode cX8_taken 23 = .ok (.ireturn, 1) := by decide +kernel
theorem dX8_takes_0 : decode cX8_takes 0 = .ok (.aload_n 0, 1) := by decide +kernel
theorem dX8_takes_1 : decode cX8_takes 1 = .ok (.iconst 0, 1) := by decide +kernel
theorem dX8_takes_2 : decode cX8_takes 2 = .ok (.putfield 103, 3) := by decide +kernel
theorem dX8_takes_5 : decode cX8_takes 5 = .ok (.iload_n 1, 1) := by decide +kernel
theorem dX8_takes_6 : decode cX8_takes 6 = .ok (.iconst 0, 1) := by decide +kernel
theorem dX8_takes_7 : decode cX8_takes 7 = .ok (.iconst 2, 1) := by decide +kernel
theorem dX8_takes_8 : decode cX8_takes 8 = .ok (.invokestatic 202, 3) := by decide +kernel
theorem dX8_takes_11 : decode cX8_takes 11 = .ok (.ifCond .ne 5, 3) := by decide +kernel
theorem dX8_takes_14 : decode cX8_takes 14 = .ok (.iconst (-1), 1) := by decide +kernel
theorem dX8_takes_15 : decode cX8_takes 15 = .ok (.ireturn, 1) := by decide +kernel
theorem dX8_takes_16 : decode cX8_takes 16 = .ok (.aload_n 0, 1) := by decide +kernel
theorem dX8_takes_17 : decode cX8_takes 17 = .ok (.iload_n 1, 1) := by decide +kernel
theorem dX8_takes_18 : decode cX8_takes 18 = .ok (.invokevirtual 263, 3) := by decide +kernel
theorem dX8_takes_21 : decode cX8_takes 21 = .ok (.istore_n 3, 1) := by decide +kernel
theorem dX8_takes_22 : decode cX8_takes 22 = .ok (.iconst 0, 1) := by decide +kernel
theorem dX8_takes_23 : decode cX8_takes 23 = .ok (.istore 4, 2) := by decide +kernel
theorem dX8_takes_25 : decode cX8_takes 25 = .ok (.iconst 0, 1) := by decide +kernel
theorem dX8_takes_26 : decode cX8_takes 26 = .ok (.istore 5, 2) := by decide +kernel
theorem dX8_takes_28 : decode cX8_takes 28 = .ok (.iload 5, 2) := by decide +kernel
theorem dX8_takes_30 : decode cX8_takes 30 = .ok (.aload_n 0, 1) := by decide +kernel
theorem dX8_takes_31 : decode cX8_takes 31 = .ok (.getfield 16, 3) := by decide +kernel
theorem dX8_takes_34 : decode cX8_takes 34 = .ok (.getfield 122, 3) := by decide +kernel
theorem dX8_takes_37 : decode cX8_takes 37 = .ok (.if_icmp .ge 34, 3) := by decide +kernel
theorem dX8_takes_40 : decode cX8_takes 40 = .ok (.aload_n 0, 1) := by decide +kernel
theorem dX8_takes_41 : decode cX8_takes 41 = .ok (.getfield 79, 3) := by decide +kernel
theorem dX8_takes_44 : decode cX8_takes 44 = .ok (.iload 5, 2) := by decide +kernel
theorem dX8_takes_46 : decode cX8_takes 46 = .ok (.baload, 1) := by decide +kernel
theorem dX8_takes_47 : decode cX8_takes 47 = .ok (.ifCond .ne 6, 3) := by decide +kernel
theorem dX8_takes_50 : decode cX8_takes 50 = .ok (.goto 15, 3) := by decide +kernel
theorem dX8_takes_53 : decode cX8_takes 53 = .ok (.iload 4, 2) := by decide +kernel
theorem dX8_takes_55 : decode cX8_takes 55 = .ok (.iload_n 2, 1) := by decide +kernel
theorem dX8_takes_56 : decode cX8_takes 56 = .ok (.if_icmp .ne 6, 3) := by decide +kernel
theorem dX8_takes_59 : decode cX8_takes 59 = .ok (.iload 5, 2) := by decide +kernel
theorem dX8_takes_61 : decode cX8_takes 61 = .ok (.ireturn, 1) := by decide +kernel
theorem dX8_takes_62 : decode cX8_takes 62 = .ok (.iinc 4 1, 3) := by decide +kernel
theorem dX8_takes_65 : decode cX8_takes 65 = .ok (.iinc 5 1, 3) := by decide +kernel
theorem dX8_takes_68 : decode cX8_takes 68 = .ok (.goto (-40), 3) := by decide +kernel
theorem dX8_takes_71 : decode cX8_takes 71 = .ok (.iconst (-1), 1) := by decide +kernel
theorem dX8_takes_72 : decode cX8_takes 72 = .ok (.ireturn, 1) := by decide +kernel
theorem dX8_copy_0 : decode cX8_copy 0 = .ok (.iload_n 2, 1) := by decide +kernel
theorem dX8_copy_1 : decode cX8_copy 1 = .ok (.istore 4, 2) := by decide +kernel
theorem dX8_copy_3 : decode cX8_copy 3 = .ok (.iload 4, 2) := by decide +kernel
theorem dX8_copy_5 : decode cX8_copy 5 = .ok (.iload_n 3, 1) := by decide +kernel
theorem dX8_copy_6 : decode cX8_copy 6 = .ok (.if_icmp .ge 47, 3) := by decide +kernel
theorem dX8_copy_9 : decode cX8_copy 9 = .ok (.aload_n 0, 1) := by decide +kernel
theorem dX8_copy_10 : decode cX8_copy 10 = .ok (.getfield 266, 3) := by decide +kernel
theorem dX8_copy_13 : decode cX8_copy 13 = .ok (.aload_n 0, 1) := by decide +kernel
theorem dX8_copy_14 : decode cX8_copy 14 = .ok (.getfield 86, 3) := by decide +kernel
theorem dX8_copy_17 : decode cX8_copy 17 = .ok (.arraylength, 1) := by decide +kernel
theorem dX8_copy_18 : decode cX8_copy 18 = .ok (.if_icmp .ge 35, 3) := by decide +kernel
theorem dX8_copy_21 : decode cX8_copy 21 = .ok (.aload_n 0, 1) := by decide +kernel
theorem dX8_copy_22 : decode cX8_copy 22 = .ok (.getfield 86, 3) := by decide +kernel
theorem dX8_copy_25 : decode cX8_copy 25 = .ok (.aload_n 0, 1) := by decide +kernel
theorem dX8_copy_26 : decode cX8_copy 26 = .ok (.getfield 266, 3) := by decide +kernel
theorem dX8_copy_29 : decode cX8_copy 29 = .ok (.aload_n 1, 1) := by decide +kernel
theorem dX8_copy_30 : decode cX8_copy 30 = .ok (.getfield 113, 3) := by decide +kernel
theorem dX8_copy_33 : decode cX8_copy 33 = .ok (.iload 4, 2) := by decide +kernel
theorem dX8_copy_35 : decode cX8_copy 35 = .ok (.baload, 1) := by decide +kernel
theorem dX8_copy_36 : decode cX8_copy 36 = .ok (.bastore, 1) := by decide +kernel
theorem dX8_copy_37 : decode cX8_copy 37 = .ok (.aload_n 0, 1) := by decide +kernel
theorem dX8_copy_38 : decode cX8_copy 38 = .ok (.dup, 1) := by decide +kernel
theorem dX8_copy_39 : decode cX8_copy 39 = .ok (.getfield 266, 3) := by decide +kernel
theorem dX8_copy_42 : decode cX8_copy 42 = .ok (.iconst 1, 1) := by decide +kernel
theorem dX8_copy_43 : decode cX8_copy 43 = .ok (.iadd, 1) := by decide +kernel
theorem dX8_copy_44 : decode cX8_copy 44 = .ok (.putfield 266, 3) := by decide +kernel
theorem dX8_copy_47 : decode cX8_copy 47 = .ok (.iinc 4 1, 3) := by decide +kernel
theorem dX8_copy_50 : decode cX8_copy 50 = .ok (.goto (-47), 3) := by decide +kernel
theorem dX8_copy_53 : decode cX8_copy 53 = .ok (.return_, 1) := by decide +kernel
theorem dX8_strike_0 : decode cX8_strike 0 = .ok (.iconst 0, 1) := by decide +kernel
theorem dX8_strike_1 : decode cX8_strike 1 = .ok (.istore_n 1, 1) := by decide +kernel
theorem dX8_strike_2 : decode cX8_strike 2 = .ok (.iload_n 1, 1) := by decide +kernel
theorem dX8_strike_3 : decode cX8_strike 3 = .ok (.aload_n 0, 1) := by decide +kernel
theorem dX8_strike_4 : decode cX8_strike 4 = .ok (.getfield 23, 3) := by decide +kernel
theorem dX8_strike_7 : decode cX8_strike 7 = .ok (.getfield 112, 3) := by decide +kernel
theorem dX8_strike_10 : decode cX8_strike 10 = .ok (.if_icmp .ge 16, 3) := by decide +kernel
theorem dX8_strike_13 : decode cX8_strike 13 = .ok (.aload_n 0, 1) := by decide +kernel
theorem dX8_strike_14 : decode cX8_strike 14 = .ok (.getfield 89, 3) := by decide +kernel
theorem dX8_strike_17 : decode cX8_strike 17 = .ok (.iload_n 1, 1) := by decide +kernel
theorem dX8_strike_18 : decode cX8_strike 18 = .ok (.iconst 0, 1) := by decide +kernel
theorem dX8_strike_19 : decode cX8_strike 19 = .ok (.bastore, 1) := by decide +kernel
theorem dX8_strike_20 : decode cX8_strike 20 = .ok (.iinc 1 1, 3) := by decide +kernel
theorem dX8_strike_23 : decode cX8_strike 23 = .ok (.goto (-21), 3) := by decide +kernel
theorem dX8_strike_26 : decode cX8_strike 26 = .ok (.iconst 0, 1) := by decide +kernel
theorem dX8_strike_27 : decode cX8_strike 27 = .ok (.istore_n 1, 1) := by decide +kernel
end
section
theorem dX8_strike_28 : decode cX8_strike 28 = .ok (.iload_n 1, 1) := by decide +kernel
theorem dX8_strike_29 : decode cX8_strike 29 = .ok (.aload_n 0, 1) := by decide +kernel
theorem dX8_strike_30 : decode cX8_strike 30 = .ok (.getfield 23, 3) := by decide +kernel
theorem dX8_strike_33 : decode cX8_strike 33 = .ok (.getfield 122, 3) := by decide +kernel
theorem dX8_strike_36 : decode cX8_strike 36 = .ok (.if_icmp .ge 16, 3) := by decide +kernel
theorem dX8_strike_39 : decode cX8_strike 39 = .ok (.aload_n 0, 1) := by decide +kernel
theorem dX8_strike_40 : decode cX8_strike 40 = .ok (.getfield 92, 3) := by decide +kernel
theorem dX8_strike_43 : decode cX8_strike 43 = .ok (.iload_n 1, 1) := by decide +kernel
theorem dX8_strike_44 : decode cX8_strike 44 = .ok (.iconst 0, 1) := by decide +kernel
theorem dX8_strike_45 : decode cX8_strike 45 = .ok (.bastore, 1) := by decide +kernel
theorem dX8_strike_46 : decode cX8_strike 46 = .ok (.iinc 1 1, 3) := by decide +kernel
theorem dX8_strike_49 : decode cX8_strike 49 = .ok (.goto (-21), 3) := by decide +kernel
theorem dX8_strike_52 : decode cX8_strike 52 = .ok (.iconst 0, 1) := by decide +kernel
theorem dX8_strike_53 : decode cX8_strike 53 = .ok (.istore_n 1, 1) := by decide +kernel
theorem dX8_strike_54 : decode cX8_strike 54 = .ok (.iload_n 1, 1) := by decide +kernel
theorem dX8_strike_55 : decode cX8_strike 55 = .ok (.aload_n 0, 1) := by decide +kernel
theorem dX8_strike_56 : decode cX8_strike 56 = .ok (.getfield 23, 3) := by decide +kernel
theorem dX8_strike_59 : decode cX8_strike 59 = .ok (.getfield 122, 3) := by decide +kernel
theorem dX8_strike_62 : decode cX8_strike 62 = .ok (.if_icmp .ge 221, 3) := by decide +kernel
theorem dX8_strike_65 : decode cX8_strike 65 = .ok (.aload_n 0, 1) := by decide +kernel
theorem dX8_strike_66 : decode cX8_strike 66 = .ok (.getfield 23, 3) := by decide +kernel
theorem dX8_strike_69 : decode cX8_strike 69 = .ok (.getfield 125, 3) := by decide +kernel
theorem dX8_strike_72 : decode cX8_strike 72 = .ok (.iload_n 1, 1) := by decide +kernel
theorem dX8_strike_73 : decode cX8_strike 73 = .ok (.iaload, 1) := by decide +kernel
theorem dX8_strike_74 : decode cX8_strike 74 = .ok (.iconst 2, 1) := by decide +kernel
theorem dX8_strike_75 : decode cX8_strike 75 = .ok (.if_icmp .ne 202, 3) := by decide +kernel
theorem dX8_strike_78 : decode cX8_strike 78 = .ok (.aload_n 0, 1) := by decide +kernel
theorem dX8_strike_79 : decode cX8_strike 79 = .ok (.getfield 67, 3) := by decide +kernel
theorem dX8_strike_82 : decode cX8_strike 82 = .ok (.aload_n 0, 1) := by decide +kernel
theorem dX8_strike_83 : decode cX8_strike 83 = .ok (.getfield 23, 3) := by decide +kernel
theorem dX8_strike_86 : decode cX8_strike 86 = .ok (.getfield 140, 3) := by decide +kernel
theorem dX8_strike_89 : decode cX8_strike 89 = .ok (.iload_n 1, 1) := by decide +kernel
theorem dX8_strike_90 : decode cX8_strike 90 = .ok (.iaload, 1) := by decide +kernel
theorem dX8_strike_91 : decode cX8_strike 91 = .ok (.iaload, 1) := by decide +kernel
theorem dX8_strike_92 : decode cX8_strike 92 = .ok (.ifCond .le 6, 3) := by decide +kernel
theorem dX8_strike_95 : decode cX8_strike 95 = .ok (.goto 182, 3) := by decide +kernel
theorem dX8_strike_98 : decode cX8_strike 98 = .ok (.iconst (-1), 1) := by decide +kernel
theorem dX8_strike_99 : decode cX8_strike 99 = .ok (.istore_n 2, 1) := by decide +kernel
theorem dX8_strike_100 : decode cX8_strike 100 = .ok (.iconst (-1), 1) := by decide +kernel
theorem dX8_strike_101 : decode cX8_strike 101 = .ok (.istore_n 3, 1) := by decide +kernel
theorem dX8_strike_102 : decode cX8_strike 102 = .ok (.iconst 0, 1) := by decide +kernel
theorem dX8_strike_103 : decode cX8_strike 103 = .ok (.istore 4, 2) := by decide +kernel
theorem dX8_strike_105 : decode cX8_strike 105 = .ok (.iload 4, 2) := by decide +kernel
theorem dX8_strike_107 : decode cX8_strike 107 = .ok (.aload_n 0, 1) := by decide +kernel
theorem dX8_strike_108 : decode cX8_strike 108 = .ok (.getfield 23, 3) := by decide +kernel
theorem dX8_strike_111 : decode cX8_strike 111 = .ok (.getfield 122, 3) := by decide +kernel
theorem dX8_strike_114 : decode cX8_strike 114 = .ok (.if_icmp .ge 70, 3) := by decide +kernel
theorem dX8_strike_117 : decode cX8_strike 117 = .ok (.aload_n 0, 1) := by decide +kernel
theorem dX8_strike_118 : decode cX8_strike 118 = .ok (.getfield 23, 3) := by decide +kernel
theorem dX8_strike_121 : decode cX8_strike 121 = .ok (.getfield 131, 3) := by decide +kernel
theorem dX8_strike_124 : decode cX8_strike 124 = .ok (.iload 4, 2) := by decide +kernel
theorem dX8_strike_126 : decode cX8_strike 126 = .ok (.iaload, 1) := by decide +kernel
theorem dX8_strike_127 : decode cX8_strike 127 = .ok (.aload_n 0, 1) := by decide +kernel
theorem dX8_strike_128 : decode cX8_strike 128 = .ok (.getfield 23, 3) := by decide +kernel
theorem dX8_strike_131 : decode cX8_strike 131 = .ok (.getfield 131, 3) := by decide +kernel
theorem dX8_strike_134 : decode cX8_strike 134 = .ok (.iload_n 1, 1) := by decide +kernel
theorem dX8_strike_135 : decode cX8_strike 135 = .ok (.iaload, 1) := by decide +kernel
theorem dX8_strike_136 : decode cX8_strike 136 = .ok (.if_icmp .ne 42, 3) := by decide +kernel
theorem dX8_strike_139 : decode cX8_strike 139 = .ok (.iload 4, 2) := by decide +kernel
theorem dX8_strike_141 : decode cX8_strike 141 = .ok (.iload_n 1, 1) := by decide +kernel
theorem dX8_strike_142 : decode cX8_strike 142 = .ok (.if_icmp .eq 36, 3) := by decide +kernel
theorem dX8_strike_145 : decode cX8_strike 145 = .ok (.aload_n 0, 1) := by decide +kernel
theorem dX8_strike_146 : decode cX8_strike 146 = .ok (.getfield 92, 3) := by decide +kernel
theorem dX8_strike_149 : decode cX8_strike 149 = .ok (.iload 4, 2) := by decide +kernel
theorem dX8_strike_151 : decode cX8_strike 151 = .ok (.baload, 1) := by decide +kernel
theorem dX8_strike_152 : decode cX8_strike 152 = .ok (.ifCond .eq 6, 3) := by decide +kernel
theorem dX8_strike_155 : decode cX8_strike 155 = .ok (.goto 23, 3) := by decide +kernel
theorem dX8_strike_158 : decode cX8_strike 158 = .ok (.iload 4, 2) := by decide +kernel
theorem dX8_strike_160 : decode cX8_strike 160 = .ok (.iload_n 1, 1) := by decide +kernel
theorem dX8_strike_161 : decode cX8_strike 161 = .ok (.if_icmp .ge 9, 3) := by decide +kernel
theorem dX8_strike_164 : decode cX8_strike 164 = .ok (.iload 4, 2) := by decide +kernel
theorem dX8_strike_166 : decode cX8_strike 166 = .ok (.istore_n 2, 1) := by decide +kernel
theorem dX8_strike_167 : decode cX8_strike 167 = .ok (.goto 11, 3) := by decide +kernel
theorem dX8_strike_170 : decode cX8_strike 170 = .ok (.iload_n 3, 1) := by decide +kernel
theorem dX8_strike_171 : decode cX8_strike 171 = .ok (.iconst (-1), 1) := by decide +kernel
theorem dX8_strike_172 : decode cX8_strike 172 = .ok (.if_icmp .ne 6, 3) := by decide +kernel
theorem dX8_strike_175 : decode cX8_strike 175 = .ok (.iload 4, 2) := by decide +kernel
theorem dX8_strike_177 : decode cX8_strike 177 = .ok (.istore_n 3, 1) := by decide +kernel
theorem dX8_strike_178 : decode cX8_strike 178 = .ok (.iinc 4 1, 3) := by decide +kernel
theorem dX8_strike_181 : decode cX8_strike 181 = .ok (.goto (-76), 3) := by decide +kernel
theorem dX8_strike_184 : decode cX8_strike 184 = .ok (.iload_n 3, 1) := by decide +kernel
theorem dX8_strike_185 : decode cX8_strike 185 = .ok (.iconst (-1), 1) := by decide +kernel
theorem dX8_strike_186 : decode cX8_strike 186 = .ok (.if_icmp .ne 8, 3) := by decide +kernel
theorem dX8_strike_189 : decode cX8_strike 189 = .ok (.iload_n 2, 1) := by decide +kernel
theorem dX8_strike_190 : decode cX8_strike 190 = .ok (.iconst (-1), 1) := by decide +kernel
theorem dX8_strike_191 : decode cX8_strike 191 = .ok (.if_icmp .ne 15, 3) := by decide +kernel
theorem dX8_strike_194 : decode cX8_strike 194 = .ok (.aload_n 0, 1) := by decide +kernel
theorem dX8_strike_195 : decode cX8_strike 195 = .ok (.getfield 23, 3) := by decide +kernel
theorem dX8_strike_198 : decode cX8_strike 198 = .ok (.getfield 128, 3) := by decide +kernel
theorem dX8_strike_201 : decode cX8_strike 201 = .ok (.iload_n 1, 1) := by decide +kernel
theorem dX8_strike_202 : decode cX8_strike 202 = .ok (.iaload, 1) := by decide +kernel
theorem dX8_strike_203 : decode cX8_strike 203 = .ok (.goto 12, 3) := by decide +kernel
theorem dX8_strike_206 : decode cX8_strike 206 = .ok (.aload_n 0, 1) := by decide +kernel
theorem dX8_strike_207 : decode cX8_strike 207 = .ok (.getfield 23, 3) := by decide +kernel
theorem dX8_strike_210 : decode cX8_strike 210 = .ok (.getfield 154, 3) := by decide +kernel
theorem dX8_strike_213 : decode cX8_strike 213 = .ok (.iload_n 2, 1) := by decide +kernel
theorem dX8_strike_214 : decode cX8_strike 214 = .ok (.iaload, 1) := by decide +kernel
theorem dX8_strike_215 : decode cX8_strike 215 = .ok (.istore 4, 2) := by decide +kernel
theorem dX8_strike_217 : decode cX8_strike 217 = .ok (.iload_n 3, 1) := by decide +kernel
theorem dX8_strike_218 : decode cX8_strike 218 = .ok (.iconst (-1), 1) := by decide +kernel
theorem dX8_strike_219 : decode cX8_strike 219 = .ok (.if_icmp .eq 15, 3) := by decide +kernel
theorem dX8_strike_222 : decode cX8_strike 222 = .ok (.aload_n 0, 1) := by decide +kernel
theorem dX8_strike_223 : decode cX8_strike 223 = .ok (.getfield 23, 3) := by decide +kernel
theorem dX8_strike_226 : decode cX8_strike 226 = .ok (.getfield 128, 3) := by decide +kernel
theorem dX8_strike_229 : decode cX8_strike 229 = .ok (.iload_n 3, 1) := by decide +kernel
theorem dX8_strike_230 : decode cX8_strike 230 = .ok (.iaload, 1) := by decide +kernel
theorem dX8_strike_231 : decode cX8_strike 231 = .ok (.goto 12, 3) := by decide +kernel
theorem dX8_strike_234 : decode cX8_strike 234 = .ok (.aload_n 0, 1) := by decide +kernel
theorem dX8_strike_235 : decode cX8_strike 235 = .ok (.getfield 23, 3) := by decide +kernel
theorem dX8_strike_238 : decode cX8_strike 238 = .ok (.getfield 154, 3) := by decide +kernel
theorem dX8_strike_241 : decode cX8_strike 241 = .ok (.iload_n 1, 1) := by decide +kernel
theorem dX8_strike_242 : decode cX8_strike 242 = .ok (.iaload, 1) := by decide +kernel
theorem dX8_strike_243 : decode cX8_strike 243 = .ok (.istore 5, 2) := by decide +kernel
theorem dX8_strike_245 : decode cX8_strike 245 = .ok (.iload 4, 2) := by decide +kernel
theorem dX8_strike_247 : decode cX8_strike 247 = .ok (.istore 6, 2) := by decide +kernel
theorem dX8_strike_249 : decode cX8_strike 249 = .ok (.iload 6, 2) := by decide +kernel
theorem dX8_strike_251 : decode cX8_strike 251 = .ok (.iload 5, 2) := by decide +kernel
theorem dX8_strike_253 : decode cX8_strike 253 = .ok (.if_icmp .ge 17, 3) := by decide +kernel
theorem dX8_strike_256 : decode cX8_strike 256 = .ok (.aload_n 0, 1) := by decide +kernel
theorem dX8_strike_257 : decode cX8_strike 257 = .ok (.getfield 89, 3) := by decide +kernel
theorem dX8_strike_260 : decode cX8_strike 260 = .ok (.iload 6, 2) := by decide +kernel
theorem dX8_strike_262 : decode cX8_strike 262 = .ok (.iconst 1, 1) := by decide +kernel
theorem dX8_strike_263 : decode cX8_strike 263 = .ok (.bastore, 1) := by decide +kernel
theorem dX8_strike_264 : decode cX8_strike 264 = .ok (.iinc 6 1, 3) := by decide +kernel
theorem dX8_strike_267 : decode cX8_strike 267 = .ok (.goto (-18), 3) := by decide +kernel
theorem dX8_strike_270 : decode cX8_strike 270 = .ok (.aload_n 0, 1) := by decide +kernel
theorem dX8_strike_271 : decode cX8_strike 271 = .ok (.getfield 92, 3) := by decide +kernel
theorem dX8_strike_274 : decode cX8_strike 274 = .ok (.iload_n 1, 1) := by decide +kernel
theorem dX8_strike_275 : decode cX8_strike 275 = .ok (.iconst 1, 1) := by decide +kernel
theorem dX8_strike_276 : decode cX8_strike 276 = .ok (.bastore, 1) := by decide +kernel
theorem dX8_strike_277 : decode cX8_strike 277 = .ok (.iinc 1 1, 3) := by decide +kernel
theorem dX8_strike_280 : decode cX8_strike 280 = .ok (.goto (-226), 3) := by decide +kernel
theorem dX8_strike_283 : decode cX8_strike 283 = .ok (.return_, 1) := by decide +kernel
theorem dX8_write_0 : decode cX8_write 0 = .ok (.aload_n 0, 1) := by decide +kernel
theorem dX8_write_1 : decode cX8_write 1 = .ok (.invokevirtual 269, 3) := by decide +kernel
theorem dX8_write_4 : decode cX8_write 4 = .ok (.aload_n 0, 1) := by decide +kernel
theorem dX8_write_5 : decode cX8_write 5 = .ok (.getfield 23, 3) := by decide +kernel
theorem dX8_write_8 : decode cX8_write 8 = .ok (.getfield 128, 3) := by decide +kernel
theorem dX8_write_11 : decode cX8_write 11 = .ok (.iconst 0, 1) := by decide +kernel
theorem dX8_write_12 : decode cX8_write 12 = .ok (.iaload, 1) := by decide +kernel
theorem dX8_write_13 : decode cX8_write 13 = .ok (.istore_n 1, 1) := by decide +kernel
theorem dX8_write_14 : decode cX8_write 14 = .ok (.iload_n 1, 1) := by decide +kernel
theorem dX8_write_15 : decode cX8_write 15 = .ok (.aload_n 0, 1) := by decide +kernel
theorem dX8_write_16 : decode cX8_write 16 = .ok (.getfield 23, 3) := by decide +kernel
theorem dX8_write_19 : decode cX8_write 19 = .ok (.getfield 154, 3) := by decide +kernel
theorem dX8_write_22 : decode cX8_write 22 = .ok (.iconst 0, 1) := by decide +kernel
theorem dX8_write_23 : decode cX8_write 23 = .ok (.iaload, 1) := by decide +kernel
theorem dX8_write_24 : decode cX8_write 24 = .ok (.if_icmp .ge 216, 3) := by decide +kernel
theorem dX8_write_27 : decode cX8_write 27 = .ok (.iconst (-1), 1) := by decide +kernel
theorem dX8_write_28 : decode cX8_write 28 = .ok (.istore_n 2, 1) := by decide +kernel
theorem dX8_write_29 : decode cX8_write 29 = .ok (.iconst 0, 1) := by decide +kernel
theorem dX8_write_30 : decode cX8_write 30 = .ok (.istore_n 3, 1) := by decide +kernel
theorem dX8_write_31 : decode cX8_write 31 = .ok (.iload_n 3, 1) := by decide +kernel
theorem dX8_write_32 : decode cX8_write 32 = .ok (.aload_n 0, 1) := by decide +kernel
theorem dX8_write_33 : decode cX8_write 33 = .ok (.getfield 23, 3) := by decide +kernel
theorem dX8_write_36 : decode cX8_write 36 = .ok (.getfield 122, 3) := by decide +kernel
theorem dX8_write_39 : decode cX8_write 39 = .ok (.if_icmp .ge 37, 3) := by decide +kernel
theorem dX8_write_42 : decode cX8_write 42 = .ok (.aload_n 0, 1) := by decide +kernel
theorem dX8_write_43 : decode cX8_write 43 = .ok (.getfield 23, 3) := by decide +kernel
theorem dX8_write_46 : decode cX8_write 46 = .ok (.getfield 128, 3) := by decide +kernel
theorem dX8_write_49 : decode cX8_write 49 = .ok (.iload_n 3, 1) := by decide +kernel
theorem dX8_write_50 : decode cX8_write 50 = .ok (.iaload, 1) := by decide +kernel
theorem dX8_write_51 : decode cX8_write 51 = .ok (.iload_n 1, 1) := by decide +kernel
theorem dX8_write_52 : decode cX8_write 52 = .ok (.if_icmp .ne 18, 3) := by decide +kernel
theorem dX8_write_55 : decode cX8_write 55 = .ok (.aload_n 0, 1) := by decide +kernel
theorem dX8_write_56 : decode cX8_write 56 = .ok (.getfield 23, 3) := by decide +kernel
theorem dX8_write_59 : decode cX8_write 59 = .ok (.getfield 140, 3) := by decide +kernel
theorem dX8_write_62 : decode cX8_write 62 = .ok (.iload_n 3, 1) := by decide +kernel
theorem dX8_write_63 : decode cX8_write 63 = .ok (.iaload, 1) := by decide +kernel
theorem dX8_write_64 : decode cX8_write 64 = .ok (.iconst (-1), 1) := by decide +kernel
theorem dX8_write_65 : decode cX8_write 65 = .ok (.if_icmp .eq 5, 3) := by decide +kernel
theorem dX8_write_68 : decode cX8_write 68 = .ok (.iload_n 3, 1) := by decide +kernel
theorem dX8_write_69 : decode cX8_write 69 = .ok (.istore_n 2, 1) := by decide +kernel
theorem dX8_write_70 : decode cX8_write 70 = .ok (.iinc 3 1, 3) := by decide +kernel
theorem dX8_write_73 : decode cX8_write 73 = .ok (.goto (-42), 3) := by decide +kernel
theorem dX8_write_76 : decode cX8_write 76 = .ok (.aload_n 0, 1) := by decide +kernel
theorem dX8_write_77 : decode cX8_write 77 = .ok (.getfield 89, 3) := by decide +kernel
theorem dX8_write_80 : decode cX8_write 80 = .ok (.iload_n 1, 1) := by decide +kernel
theorem dX8_write_81 : decode cX8_write 81 = .ok (.baload, 1) := by decide +kernel
theorem dX8_write_82 : decode cX8_write 82 = .ok (.ifCond .eq 9, 3) := by decide +kernel
theorem dX8_write_85 : decode cX8_write 85 = .ok (.iinc 1 1, 3) := by decide +kernel
theorem dX8_write_88 : decode cX8_write 88 = .ok (.goto (-74), 3) := by decide +kernel
theorem dX8_write_91 : decode cX8_write 91 = .ok (.iload_n 2, 1) := by decide +kernel
theorem dX8_write_92 : decode cX8_write 92 = .ok (.iconst (-1), 1) := by decide +kernel
theorem dX8_write_93 : decode cX8_write 93 = .ok (.if_icmp .ne 21, 3) := by decide +kernel
theorem dX8_write_96 : decode cX8_write 96 = .ok (.aload_n 0, 1) := by decide +kernel
theorem dX8_write_97 : decode cX8_write 97 = .ok (.aload_n 0, 1) := by decide +kernel
theorem dX8_write_98 : decode cX8_write 98 = .ok (.getfield 23, 3) := by decide +kernel
theorem dX8_write_101 : decode cX8_write 101 = .ok (.iload_n 1, 1) := by decide +kernel
theorem dX8_write_102 : decode cX8_write 102 = .ok (.iload_n 1, 1) := by decide +kernel
theorem dX8_write_103 : decode cX8_write 103 = .ok (.iconst 1, 1) := by decide +kernel
theorem dX8_write_104 : decode cX8_write 104 = .ok (.iadd, 1) := by decide +kernel
theorem dX8_write_105 : decode cX8_write 105 = .ok (.invokevirtual 272, 3) := by decide +kernel
theorem dX8_write_108 : decode cX8_write 108 = .ok (.iinc 1 1, 3) := by decide +kernel
theorem dX8_write_111 : decode cX8_write 111 = .ok (.goto (-97), 3) := by decide +kernel
theorem dX8_write_114 : decode cX8_write 114 = .ok (.aload_n 0, 1) := by decide +kernel
theorem dX8_write_115 : decode cX8_write 115 = .ok (.getfield 23, 3) := by decide +kernel
theorem dX8_write_118 : decode cX8_write 118 = .ok (.getfield 140, 3) := by decide +kernel
theorem dX8_write_121 : decode cX8_write 121 = .ok (.iload_n 2, 1) := by decide +kernel
theorem dX8_write_122 : decode cX8_write 122 = .ok (.iaload, 1) := by decide +kernel
theorem dX8_write_123 : decode cX8_write 123 = .ok (.istore_n 3, 1) := by decide +kernel
theorem dX8_write_124 : decode cX8_write 124 = .ok (.aload_n 0, 1) := by decide +kernel
theorem dX8_write_125 : decode cX8_write 125 = .ok (.getfield 23, 3) := by decide +kernel
theorem dX8_write_128 : decode cX8_write 128 = .ok (.getfield 125, 3) := by decide +kernel
theorem dX8_write_131 : decode cX8_write 131 = .ok (.iload_n 2, 1) := by decide +kernel
theorem dX8_write_132 : decode cX8_write 132 = .ok (.iaload, 1) := by decide +kernel
theorem dX8_write_133 : decode cX8_write 133 = .ok (.iconst 1, 1) := by decide +kernel
theorem dX8_write_134 : decode cX8_write 134 = .ok (.if_icmp .ne 42, 3) := by decide +kernel
theorem dX8_write_137 : decode cX8_write 137 = .ok (.aload_n 0, 1) := by decide +kernel
theorem dX8_write_138 : decode cX8_write 138 = .ok (.aload_n 0, 1) := by decide +kernel
theorem dX8_write_139 : decode cX8_write 139 = .ok (.getfield 16, 3) := by decide +kernel
theorem dX8_write_142 : decode cX8_write 142 = .ok (.aload_n 0, 1) := by decide +kernel
theorem dX8_write_143 : decode cX8_write 143 = .ok (.getfield 16, 3) := by decide +kernel
theorem dX8_write_146 : decode cX8_write 146 = .ok (.getfield 128, 3) := by decide +kernel
theorem dX8_write_149 : decode cX8_write 149 = .ok (.aload_n 0, 1) := by decide +kernel
theorem dX8_write_150 : decode cX8_write 150 = .ok (.getfield 61, 3) := by decide +kernel
theorem dX8_write_153 : decode cX8_write 153 = .ok (.iload_n 3, 1) := by decide +kernel
theorem dX8_write_154 : decode cX8_write 154 = .ok (.iaload, 1) := by decide +kernel
theorem dX8_write_155 : decode cX8_write 155 = .ok (.iaload, 1) := by decide +kernel
theorem dX8_write_156 : decode cX8_write 156 = .ok (.aload_n 0, 1) := by decide +kernel
theorem dX8_write_157 : decode cX8_write 157 = .ok (.getfield 16, 3) := by decide +kernel
theorem dX8_write_160 : decode cX8_write 160 = .ok (.getfield 154, 3) := by decide +kernel
theorem dX8_write_163 : decode cX8_write 163 = .ok (.aload_n 0, 1) := by decide +kernel
theorem dX8_write_164 : decode cX8_write 164 = .ok (.getfield 61, 3) := by decide +kernel
theorem dX8_write_167 : decode cX8_write 167 = .ok (.iload_n 3, 1) := by decide +kernel
theorem dX8_write_168 : decode cX8_write 168 = .ok (.iaload, 1) := by decide +kernel
theorem dX8_write_169 : decode cX8_write 169 = .ok (.iaload, 1) := by decide +kernel
theorem dX8_write_170 : decode cX8_write 170 = .ok (.invokevirtual 272, 3) := by decide +kernel
theorem dX8_write_173 : decode cX8_write 173 = .ok (.goto 61, 3) := by decide +kernel
theorem dX8_write_176 : decode cX8_write 176 = .ok (.aload_n 0, 1) := by decide +kernel
theorem dX8_write_177 : decode cX8_write 177 = .ok (.aload_n 0, 1) := by decide +kernel
theorem dX8_write_178 : decode cX8_write 178 = .ok (.getfield 16, 3) := by decide +kernel
theorem dX8_write_181 : decode cX8_write 181 = .ok (.aload_n 0, 1) := by decide +kernel
theorem dX8_write_182 : decode cX8_write 182 = .ok (.getfield 16, 3) := by decide +kernel
theorem dX8_write_185 : decode cX8_write 185 = .ok (.getfield 128, 3) := by decide +kernel
theorem dX8_write_188 : decode cX8_write 188 = .ok (.aload_n 0, 1) := by decide +kernel
theorem dX8_write_189 : decode cX8_write 189 = .ok (.getfield 64, 3) := by decide +kernel
theorem dX8_write_192 : decode cX8_write 192 = .ok (.iload_n 3, 1) := by decide +kernel
theorem dX8_write_193 : decode cX8_write 193 = .ok (.iaload, 1) := by decide +kernel
theorem dX8_write_194 : decode cX8_write 194 = .ok (.iaload, 1) := by decide +kernel
theorem dX8_write_195 : decode cX8_write 195 = .ok (.aload_n 0, 1) := by decide +kernel
theorem dX8_write_196 : decode cX8_write 196 = .ok (.getfield 16, 3) := by decide +kernel
theorem dX8_write_199 : decode cX8_write 199 = .ok (.getfield 154, 3) := by decide +kernel
theorem dX8_write_202 : decode cX8_write 202 = .ok (.aload_n 0, 1) := by decide +kernel
theorem dX8_write_203 : decode cX8_write 203 = .ok (.getfield 16, 3) := by decide +kernel
theorem dX8_write_206 : decode cX8_write 206 = .ok (.aload_n 0, 1) := by decide +kernel
theorem dX8_write_207 : decode cX8_write 207 = .ok (.getfield 70, 3) := by decide +kernel
theorem dX8_write_210 : decode cX8_write 210 = .ok (.iload_n 3, 1) := by decide +kernel
theorem dX8_write_211 : decode cX8_write 211 = .ok (.iaload, 1) := by decide +kernel
theorem dX8_write_212 : decode cX8_write 212 = .ok (.aload_n 0, 1) := by decide +kernel
theorem dX8_write_213 : decode cX8_write 213 = .ok (.getfield 73, 3) := by decide +kernel
theorem dX8_write_216 : decode cX8_write 216 = .ok (.iload_n 3, 1) := by decide +kernel
theorem dX8_write_217 : decode cX8_write 217 = .ok (.iaload, 1) := by decide +kernel
theorem dX8_write_218 : decode cX8_write 218 = .ok (.aload_n 0, 1) := by decide +kernel
theorem dX8_write_219 : decode cX8_write 219 = .ok (.getfield 67, 3) := by decide +kernel
theorem dX8_write_222 : decode cX8_write 222 = .ok (.iload_n 3, 1) := by decide +kernel
theorem dX8_write_223 : decode cX8_write 223 = .ok (.iaload, 1) := by decide +kernel
theorem dX8_write_224 : decode cX8_write 224 = .ok (.iadd, 1) := by decide +kernel
theorem dX8_write_225 : decode cX8_write 225 = .ok (.iconst 1, 1) := by decide +kernel
theorem dX8_write_226 : decode cX8_write 226 = .ok (.isub, 1) := by decide +kernel
theorem dX8_write_227 : decode cX8_write 227 = .ok (.invokevirtual 219, 3) := by decide +kernel
theorem dX8_write_230 : decode cX8_write 230 = .ok (.iaload, 1) := by decide +kernel
theorem dX8_write_231 : decode cX8_write 231 = .ok (.invokevirtual 272, 3) := by decide +kernel
theorem dX8_write_234 : decode cX8_write 234 = .ok (.iinc 1 2, 3) := by decide +kernel
theorem dX8_write_237 : decode cX8_write 237 = .ok (.goto (-223), 3) := by decide +kernel
theorem dX8_write_240 : decode cX8_write 240 = .ok (.return_, 1) := by decide +kernel
theorem dX8_puts_0 : decode cX8_puts 0 = .ok (.iload_n 1, 1) := by decide +kernel
theorem dX8_puts_1 : decode cX8_puts 1 = .ok (.iconst 0, 1) := by decide +kernel
theorem dX8_puts_2 : decode cX8_puts 2 = .ok (.iconst 2, 1) := by decide +kernel
theorem dX8_puts_3 : decode cX8_puts 3 = .ok (.invokestatic 202, 3) := by decide +kernel
theorem dX8_puts_6 : decode cX8_puts 6 = .ok (.ifCond .ne 6, 3) := by decide +kernel
theorem dX8_puts_9 : decode cX8_puts 9 = .ok (.bipush (-2), 2) := by decide +kernel
theorem dX8_puts_11 : decode cX8_puts 11 = .ok (.ireturn, 1) := by decide +kernel
theorem dX8_puts_12 : decode cX8_puts 12 = .ok (.iconst 0, 1) := by decide +kernel
theorem dX8_puts_13 : decode cX8_puts 13 = .ok (.istore_n 2, 1) := by decide +kernel
theorem dX8_puts_14 : decode cX8_puts 14 = .ok (.iload_n 2, 1) := by decide +kernel
theorem dX8_puts_15 : decode cX8_puts 15 = .ok (.aload_n 0, 1) := by decide +kernel
theorem dX8_puts_16 : decode cX8_puts 16 = .ok (.getfield 23, 3) := by decide +kernel
theorem dX8_puts_19 : decode cX8_puts 19 = .ok (.getfield 122, 3) := by decide +kernel
theorem dX8_puts_22 : decode cX8_puts 22 = .ok (.if_icmp .ge 54, 3) := by decide +kernel
theorem dX8_puts_25 : decode cX8_puts 25 = .ok (.aload_n 0, 1) := by decide +kernel
theorem dX8_puts_26 : decode cX8_puts 26 = .ok (.getfield 23, 3) := by decide +kernel
theorem dX8_puts_29 : decode cX8_puts 29 = .ok (.getfield 140, 3) := by decide +kernel
theorem dX8_puts_32 : decode cX8_puts 32 = .ok (.iload_n 2, 1) := by decide +kernel
theorem dX8_puts_33 : decode cX8_puts 33 = .ok (.iaload, 1) := by decide +kernel
theorem dX8_puts_34 : decode cX8_puts 34 = .ok (.iconst (-1), 1) := by decide +kernel
theorem dX8_puts_35 : decode cX8_puts 35 = .ok (.if_icmp .eq 35, 3) := by decide +kernel
theorem dX8_puts_38 : decode cX8_puts 38 = .ok (.aload_n 0, 1) := by decide +kernel
theorem dX8_puts_39 : decode cX8_puts 39 = .ok (.aload_n 0, 1) := by decide +kernel
theorem dX8_puts_40 : decode cX8_puts 40 = .ok (.getfield 20, 3) := by decide +kernel
theorem dX8_puts_43 : decode cX8_puts 43 = .ok (.aload_n 0, 1) := by decide +kernel
theorem dX8_puts_44 : decode cX8_puts 44 = .ok (.getfield 23, 3) := by decide +kernel
theorem dX8_puts_47 : decode cX8_puts 47 = .ok (.getfield 140, 3) := by decide +kernel
theorem dX8_puts_50 : decode cX8_puts 50 = .ok (.iload_n 2, 1) := by decide +kernel
theorem dX8_puts_51 : decode cX8_puts 51 = .ok (.iaload, 1) := by decide +kernel
theorem dX8_puts_52 : decode cX8_puts 52 = .ok (.invokevirtual 259, 3) := by decide +kernel
theorem dX8_puts_55 : decode cX8_puts 55 = .ok (.aload_n 0, 1) := by decide +kernel
theorem dX8_puts_56 : decode cX8_puts 56 = .ok (.getfield 23, 3) := by decide +kernel
theorem dX8_puts_59 : decode cX8_puts 59 = .ok (.getfield 125, 3) := by decide +kernel
theorem dX8_puts_62 : decode cX8_puts 62 = .ok (.iload_n 2, 1) := by decide +kernel
theorem dX8_puts_63 : decode cX8_puts 63 = .ok (.iaload, 1) := by decide +kernel
theorem dX8_puts_64 : decode cX8_puts 64 = .ok (.if_icmp .eq 6, 3) := by decide +kernel
theorem dX8_puts_67 : decode cX8_puts 67 = .ok (.bipush (-2), 2) := by decide +kernel
theorem dX8_puts_69 : decode cX8_puts 69 = .ok (.ireturn, 1) := by decide +kernel
theorem dX8_puts_70 : decode cX8_puts 70 = .ok (.iinc 2 1, 3) := by decide +kernel
theorem dX8_puts_73 : decode cX8_puts 73 = .ok (.goto (-59), 3) := by decide +kernel
theorem dX8_puts_76 : decode cX8_puts 76 = .ok (.aload_n 0, 1) := by decide +kernel
theorem dX8_puts_77 : decode cX8_puts 77 = .ok (.iload_n 1, 1) := by decide +kernel
theorem dX8_puts_78 : decode cX8_puts 78 = .ok (.invokevirtual 263, 3) := by decide +kernel
theorem dX8_puts_81 : decode cX8_puts 81 = .ok (.istore_n 2, 1) := by decide +kernel
theorem dX8_puts_82 : decode cX8_puts 82 = .ok (.aload_n 0, 1) := by decide +kernel
theorem dX8_puts_83 : decode cX8_puts 83 = .ok (.iconst 0, 1) := by decide +kernel
theorem dX8_puts_84 : decode cX8_puts 84 = .ok (.putfield 266, 3) := by decide +kernel
theorem dX8_puts_87 : decode cX8_puts 87 = .ok (.iconst 0, 1) := by decide +kernel
theorem dX8_puts_88 : decode cX8_puts 88 = .ok (.istore_n 3, 1) := by decide +kernel
theorem dX8_puts_89 : decode cX8_puts 89 = .ok (.iconst 0, 1) := by decide +kernel
theorem dX8_puts_90 : decode cX8_puts 90 = .ok (.istore 4, 2) := by decide +kernel
theorem dX8_puts_92 : decode cX8_puts 92 = .ok (.iload 4, 2) := by decide +kernel
theorem dX8_puts_94 : decode cX8_puts 94 = .ok (.aload_n 0, 1) := by decide +kernel
theorem dX8_puts_95 : decode cX8_puts 95 = .ok (.getfield 16, 3) := by decide +kernel
theorem dX8_puts_98 : decode cX8_puts 98 = .ok (.getfield 122, 3) := by decide +kernel
theorem dX8_puts_101 : decode cX8_puts 101 = .ok (.if_icmp .ge 64, 3) := by decide +kernel
theorem dX8_puts_104 : decode cX8_puts 104 = .ok (.aload_n 0, 1) := by decide +kernel
theorem dX8_puts_105 : decode cX8_puts 105 = .ok (.getfield 79, 3) := by decide +kernel
theorem dX8_puts_108 : decode cX8_puts 108 = .ok (.iload 4, 2) := by decide +kernel
theorem dX8_puts_110 : decode cX8_puts 110 = .ok (.baload, 1) := by decide +kernel
theorem dX8_puts_111 : decode cX8_puts 111 = .ok (.ifCond .ne 6, 3) := by decide +kernel
theorem dX8_puts_114 : decode cX8_puts 114 = .ok (.goto 45, 3) := by decide +kernel
theorem dX8_puts_117 : decode cX8_puts 117 = .ok (.aload_n 0, 1) := by decide +kernel
theorem dX8_puts_118 : decode cX8_puts 118 = .ok (.aload_n 0, 1) := by decide +kernel
theorem dX8_puts_119 : decode cX8_puts 119 = .ok (.getfield 16, 3) := by decide +kernel
theorem dX8_puts_122 : decode cX8_puts 122 = .ok (.iload_n 3, 1) := by decide +kernel
theorem dX8_puts_123 : decode cX8_puts 123 = .ok (.aload_n 0, 1) := by decide +kernel
theorem dX8_puts_124 : decode cX8_puts 124 = .ok (.getfield 16, 3) := by decide +kernel
theorem dX8_puts_127 : decode cX8_puts 127 = .ok (.getfield 128, 3) := by decide +kernel
theorem dX8_puts_130 : decode cX8_puts 130 = .ok (.iload 4, 2) := by decide +kernel
theorem dX8_puts_132 : decode cX8_puts 132 = .ok (.iaload, 1) := by decide +kernel
theorem dX8_puts_133 : decode cX8_puts 133 = .ok (.invokevirtual 272, 3) := by decide +kernel
theorem dX8_puts_136 : decode cX8_puts 136 = .ok (.aload_n 0, 1) := by decide +kernel
theorem dX8_puts_137 : decode cX8_puts 137 = .ok (.iload 4, 2) := by decide +kernel
theorem dX8_puts_139 : decode cX8_puts 139 = .ok (.invokevirtual 253, 3) := by decide +kernel
theorem dX8_puts_142 : decode cX8_puts 142 = .ok (.istore 5, 2) := by decide +kernel
theorem dX8_puts_144 : decode cX8_puts 144 = .ok (.aload_n 0, 1) := by decide +kernel
theorem dX8_puts_145 : decode cX8_puts 145 = .ok (.invokevirtual 276, 3) := by decide +kernel
theorem dX8_puts_148 : decode cX8_puts 148 = .ok (.aload_n 0, 1) := by decide +kernel
theorem dX8_puts_149 : decode cX8_puts 149 = .ok (.getfield 16, 3) := by decide +kernel
theorem dX8_puts_152 : decode cX8_puts 152 = .ok (.getfield 154, 3) := by decide +kernel
theorem dX8_puts_155 : decode cX8_puts 155 = .ok (.iload 4, 2) := by decide +kernel
theorem dX8_puts_157 : decode cX8_puts 157 = .ok (.iaload, 1) := by decide +kernel
theorem dX8_puts_158 : decode cX8_puts 158 = .ok (.istore_n 3, 1) := by decide +kernel
theorem dX8_puts_159 : decode cX8_puts 159 = .ok (.iinc 4 1, 3) := by decide +kernel
theorem dX8_puts_162 : decode cX8_puts 162 = .ok (.goto (-70), 3) := by decide +kernel
theorem dX8_puts_165 : decode cX8_puts 165 = .ok (.aload_n 0, 1) := by decide +kernel
theorem dX8_puts_166 : decode cX8_puts 166 = .ok (.aload_n 0, 1) := by decide +kernel
theorem dX8_puts_167 : decode cX8_puts 167 = .ok (.getfield 16, 3) := by decide +kernel
theorem dX8_puts_170 : decode cX8_puts 170 = .ok (.iload_n 3, 1) := by decide +kernel
theorem dX8_puts_171 : decode cX8_puts 171 = .ok (.aload_n 0, 1) := by decide +kernel
theorem dX8_puts_172 : decode cX8_puts 172 = .ok (.getfield 16, 3) := by decide +kernel
theorem dX8_puts_175 : decode cX8_puts 175 = .ok (.getfield 112, 3) := by decide +kernel
theorem dX8_puts_178 : decode cX8_puts 178 = .ok (.invokevirtual 272, 3) := by decide +kernel
theorem dX8_puts_181 : decode cX8_puts 181 = .ok (.aload_n 0, 1) := by decide +kernel
theorem dX8_puts_182 : decode cX8_puts 182 = .ok (.getfield 266, 3) := by decide +kernel
theorem dX8_puts_185 : decode cX8_puts 185 = .ok (.sipush 240, 3) := by decide +kernel
theorem dX8_puts_188 : decode cX8_puts 188 = .ok (.if_icmp .gt 25, 3) := by decide +kernel
theorem dX8_puts_191 : decode cX8_puts 191 = .ok (.aload_n 0, 1) := by decide +kernel
theorem dX8_puts_192 : decode cX8_puts 192 = .ok (.aload_n 0, 1) := by decide +kernel
theorem dX8_puts_193 : decode cX8_puts 193 = .ok (.getfield 26, 3) := by decide +kernel
theorem dX8_puts_196 : decode cX8_puts 196 = .ok (.aload_n 0, 1) := by decide +kernel
theorem dX8_puts_197 : decode cX8_puts 197 = .ok (.getfield 86, 3) := by decide +kernel
theorem dX8_puts_200 : decode cX8_puts 200 = .ok (.iconst 0, 1) := by decide +kernel
theorem dX8_puts_201 : decode cX8_puts 201 = .ok (.aload_n 0, 1) := by decide +kernel
theorem dX8_puts_202 : decode cX8_puts 202 = .ok (.getfield 266, 3) := by decide +kernel
theorem dX8_puts_205 : decode cX8_puts 205 = .ok (.iconst 0, 1) := by decide +kernel
theorem dX8_puts_206 : decode cX8_puts 206 = .ok (.invokevirtual 206, 3) := by decide +kernel
theorem dX8_puts_209 : decode cX8_puts 209 = .ok (.iconst (-1), 1) := by decide +kernel
theorem dX8_puts_210 : decode cX8_puts 210 = .ok (.if_icmp .eq 6, 3) := by decide +kernel
theorem dX8_puts_213 : decode cX8_puts 213 = .ok (.bipush (-2), 2) := by decide +kernel
theorem dX8_puts_215 : decode cX8_puts 215 = .ok (.ireturn, 1) := by decide +kernel
theorem dX8_puts_216 : decode cX8_puts 216 = .ok (.aload_n 0, 1) := by decide +kernel
theorem dX8_puts_217 : decode cX8_puts 217 = .ok (.aload_n 0, 1) := by decide +kernel
theorem dX8_puts_218 : decode cX8_puts 218 = .ok (.getfield 16, 3) := by decide +kernel
theorem dX8_puts_221 : decode cX8_puts 221 = .ok (.aload_n 0, 1) := by decide +kernel
theorem dX8_puts_222 : decode cX8_puts 222 = .ok (.getfield 86, 3) := by decide +kernel
theorem dX8_puts_225 : decode cX8_puts 225 = .ok (.iconst 0, 1) := by decide +kernel
theorem dX8_puts_226 : decode cX8_puts 226 = .ok (.aload_n 0, 1) := by decide +kernel
theorem dX8_puts_227 : decode cX8_puts 227 = .ok (.getfield 266, 3) := by decide +kernel
theorem dX8_puts_230 : decode cX8_puts 230 = .ok (.iconst 0, 1) := by decide +kernel
theorem dX8_puts_231 : decode cX8_puts 231 = .ok (.invokevirtual 206, 3) := by decide +kernel
theorem dX8_puts_234 : decode cX8_puts 234 = .ok (.istore 4, 2) := by decide +kernel
theorem dX8_puts_236 : decode cX8_puts 236 = .ok (.iload_n 2, 1) := by decide +kernel
theorem dX8_puts_237 : decode cX8_puts 237 = .ok (.ireturn, 1) := by decide +kernel
theorem dX8_keep_0 : decode cX8_keep 0 = .ok (.aload_n 0, 1) := by decide +kernel
theorem dX8_keep_1 : decode cX8_keep 1 = .ok (.getfield 212, 3) := by decide +kernel
theorem dX8_keep_4 : decode cX8_keep 4 = .ok (.bipush 10, 2) := by decide +kernel
theorem dX8_keep_6 : decode cX8_keep 6 = .ok (.if_icmp .ne 74, 3) := by decide +kernel
theorem dX8_keep_9 : decode cX8_keep 9 = .ok (.sipush 240, 3) := by decide +kernel
theorem dX8_keep_12 : decode cX8_keep 12 = .ok (.istore_n 2, 1) := by decide +kernel
theorem dX8_keep_13 : decode cX8_keep 13 = .ok (.iload_n 2, 1) := by decide +kernel
theorem dX8_keep_14 : decode cX8_keep 14 = .ok (.sipush 2400, 3) := by decide +kernel
theorem dX8_keep_17 : decode cX8_keep 17 = .ok (.if_icmp .ge 25, 3) := by decide +kernel
theorem dX8_keep_20 : decode cX8_keep 20 = .ok (.aload_n 0, 1) := by decide +kernel
theorem dX8_keep_21 : decode cX8_keep 21 = .ok (.getfield 32, 3) := by decide +kernel
theorem dX8_keep_24 : decode cX8_keep 24 = .ok (.iload_n 2, 1) := by decide +kernel
theorem dX8_keep_25 : decode cX8_keep 25 = .ok (.sipush 240, 3) := by decide +kernel
theorem dX8_keep_28 : decode cX8_keep 28 = .ok (.isub, 1) := by decide +kernel
theorem dX8_keep_29 : decode cX8_keep 29 = .ok (.aload_n 0, 1) := by decide +kernel
theorem dX8_keep_30 : decode cX8_keep 30 = .ok (.getfield 32, 3) := by decide +kernel
theorem dX8_keep_33 : decode cX8_keep 33 = .ok (.iload_n 2, 1) := by decide +kernel
theorem dX8_keep_34 : decode cX8_keep 34 = .ok (.baload, 1) := by decide +kernel
theorem dX8_keep_35 : decode cX8_keep 35 = .ok (.bastore, 1) := by decide +kernel
theorem dX8_keep_36 : decode cX8_keep 36 = .ok (.iinc 2 1, 3) := by decide +kernel
theorem dX8_keep_39 : decode cX8_keep 39 = .ok (.goto (-26), 3) := by decide +kernel
theorem dX8_keep_42 : decode cX8_keep 42 = .ok (.iconst 1, 1) := by decide +kernel
theorem dX8_keep_43 : decode cX8_keep 43 = .ok (.istore_n 2, 1) := by decide +kernel
theorem dX8_keep_44 : decode cX8_keep 44 = .ok (.iload_n 2, 1) := by decide +kernel
theorem dX8_keep_45 : decode cX8_keep 45 = .ok (.bipush 10, 2) := by decide +kernel
theorem dX8_keep_47 : decode cX8_keep 47 = .ok (.if_icmp .ge 23, 3) := by decide +kernel
theorem dX8_keep_50 : decode cX8_keep 50 = .ok (.aload_n 0, 1) := by decide +kernel
theorem dX8_keep_51 : decode cX8_keep 51 = .ok (.getfield 35, 3) := by decide +kernel
theorem dX8_keep_54 : decode cX8_keep 54 = .ok (.iload_n 2, 1) := by decide +kernel
theorem dX8_keep_55 : decode cX8_keep 55 = .ok (.iconst 1, 1) := by decide +kernel
theorem dX8_keep_56 : decode cX8_keep 56 = .ok (.isub, 1) := by decide +kernel
theorem dX8_keep_57 : decode cX8_keep 57 = .ok (.aload_n 0, 1) := by decide +kernel
theorem dX8_keep_58 : decode cX8_keep 58 = .ok (.getfield 35, 3) := by decide +kernel
theorem dX8_keep_61 : decode cX8_keep 61 = .ok (.iload_n 2, 1) := by decide +kernel
theorem dX8_keep_62 : decode cX8_keep 62 = .ok (.iaload, 1) := by decide +kernel
theorem dX8_keep_63 : decode cX8_keep 63 = .ok (.iastore, 1) := by decide +kernel
theorem dX8_keep_64 : decode cX8_keep 64 = .ok (.iinc 2 1, 3) := by decide +kernel
theorem dX8_keep_67 : decode cX8_keep 67 = .ok (.goto (-23), 3) := by decide +kernel
theorem dX8_keep_70 : decode cX8_keep 70 = .ok (.aload_n 0, 1) := by decide +kernel
theorem dX8_keep_71 : decode cX8_keep 71 = .ok (.dup, 1) := by decide +kernel
theorem dX8_keep_72 : decode cX8_keep 72 = .ok (.getfield 212, 3) := by decide +kernel
theorem dX8_keep_75 : decode cX8_keep 75 = .ok (.iconst 1, 1) := by decide +kernel
theorem dX8_keep_76 : decode cX8_keep 76 = .ok (.isub, 1) := by decide +kernel
theorem dX8_keep_77 : decode cX8_keep 77 = .ok (.putfield 212, 3) := by decide +kernel
theorem dX8_keep_80 : decode cX8_keep 80 = .ok (.iconst 0, 1) := by decide +kernel
theorem dX8_keep_81 : decode cX8_keep 81 = .ok (.istore_n 2, 1) := by decide +kernel
theorem dX8_keep_82 : decode cX8_keep 82 = .ok (.iload_n 2, 1) := by decide +kernel
theorem dX8_keep_83 : decode cX8_keep 83 = .ok (.aload_n 1, 1) := by decide +kernel
theorem dX8_keep_84 : decode cX8_keep 84 = .ok (.getfield 112, 3) := by decide +kernel
theorem dX8_keep_87 : decode cX8_keep 87 = .ok (.if_icmp .ge 30, 3) := by decide +kernel
theorem dX8_keep_90 : decode cX8_keep 90 = .ok (.aload_n 0, 1) := by decide +kernel
theorem dX8_keep_91 : decode cX8_keep 91 = .ok (.getfield 32, 3) := by decide +kernel
theorem dX8_keep_94 : decode cX8_keep 94 = .ok (.sipush 240, 3) := by decide +kernel
theorem dX8_keep_97 : decode cX8_keep 97 = .ok (.aload_n 0, 1) := by decide +kernel
theorem dX8_keep_98 : decode cX8_keep 98 = .ok (.getfield 212, 3) := by decide +kernel
theorem dX8_keep_101 : decode cX8_keep 101 = .ok (.imul, 1) := by decide +kernel
theorem dX8_keep_102 : decode cX8_keep 102 = .ok (.iload_n 2, 1) := by decide +kernel
theorem dX8_keep_103 : decode cX8_keep 103 = .ok (.iadd, 1) := by decide +kernel
theorem dX8_keep_104 : decode cX8_keep 104 = .ok (.aload_n 1, 1) := by decide +kernel
theorem dX8_keep_105 : decode cX8_keep 105 = .ok (.getfield 113, 3) := by decide +kernel
theorem dX8_keep_108 : decode cX8_keep 108 = .ok (.iload_n 2, 1) := by decide +kernel
theorem dX8_keep_109 : decode cX8_keep 109 = .ok (.baload, 1) := by decide +kernel
theorem dX8_keep_110 : decode cX8_keep 110 = .ok (.bastore, 1) := by decide +kernel
theorem dX8_keep_111 : decode cX8_keep 111 = .ok (.iinc 2 1, 3) := by decide +kernel
theorem dX8_keep_114 : decode cX8_keep 114 = .ok (.goto (-32), 3) := by decide +kernel
theorem dX8_keep_117 : decode cX8_keep 117 = .ok (.aload_n 0, 1) := by decide +kernel
theorem dX8_keep_118 : decode cX8_keep 118 = .ok (.getfield 35, 3) := by decide +kernel
theorem dX8_keep_121 : decode cX8_keep 121 = .ok (.aload_n 0, 1) := by decide +kernel
theorem dX8_keep_122 : decode cX8_keep 122 = .ok (.getfield 212, 3) := by decide +kernel
theorem dX8_keep_125 : decode cX8_keep 125 = .ok (.aload_n 1, 1) := by decide +kernel
theorem dX8_keep_126 : decode cX8_keep 126 = .ok (.getfield 112, 3) := by decide +kernel
theorem dX8_keep_129 : decode cX8_keep 129 = .ok (.iastore, 1) := by decide +kernel
theorem dX8_keep_130 : decode cX8_keep 130 = .ok (.aload_n 0, 1) := by decide +kernel
theorem dX8_keep_131 : decode cX8_keep 131 = .ok (.dup, 1) := by decide +kernel
theorem dX8_keep_132 : decode cX8_keep 132 = .ok (.getfield 212, 3) := by decide +kernel
theorem dX8_keep_135 : decode cX8_keep 135 = .ok (.iconst 1, 1) := by decide +kernel
theorem dX8_keep_136 : decode cX8_keep 136 = .ok (.iadd, 1) := by decide +kernel
theorem dX8_keep_137 : decode cX8_keep 137 = .ok (.putfield 212, 3) := by decide +kernel
theorem dX8_keep_140 : decode cX8_keep 140 = .ok (.return_, 1) := by decide +kernel
theorem dX8_put_0 : decode cX8_put 0 = .ok (.aload_n 0, 1) := by decide +kernel
theorem dX8_put_1 : decode cX8_put 1 = .ok (.iconst 0, 1) := by decide +kernel
theorem dX8_put_2 : decode cX8_put 2 = .ok (.putfield 103, 3) := by decide +kernel
theorem dX8_put_5 : decode cX8_put 5 = .ok (.aload_n 0, 1) := by decide +kernel
theorem dX8_put_6 : decode cX8_put 6 = .ok (.aload_n 0, 1) := by decide +kernel
theorem dX8_put_7 : decode cX8_put 7 = .ok (.getfield 29, 3) := by decide +kernel
theorem dX8_put_10 : decode cX8_put 10 = .ok (.aload_n 0, 1) := by decide +kernel
theorem dX8_put_11 : decode cX8_put 11 = .ok (.getfield 16, 3) := by decide +kernel
theorem dX8_put_14 : decode cX8_put 14 = .ok (.getfield 113, 3) := by decide +kernel
theorem dX8_put_17 : decode cX8_put 17 = .ok (.iconst 0, 1) := by decide +kernel
theorem dX8_put_18 : decode cX8_put 18 = .ok (.aload_n 0, 1) := by decide +kernel
theorem dX8_put_19 : decode cX8_put 19 = .ok (.getfield 16, 3) := by decide +kernel
theorem dX8_put_22 : decode cX8_put 22 = .ok (.getfield 112, 3) := by decide +kernel
theorem dX8_put_25 : decode cX8_put 25 = .ok (.iconst 0, 1) := by decide +kernel
theorem dX8_put_26 : decode cX8_put 26 = .ok (.invokevirtual 206, 3) := by decide +kernel
theorem dX8_put_29 : decode cX8_put 29 = .ok (.istore_n 2, 1) := by decide +kernel
theorem dX8_put_30 : decode cX8_put 30 = .ok (.aload_n 0, 1) := by decide +kernel
theorem dX8_put_31 : decode cX8_put 31 = .ok (.iload_n 1, 1) := by decide +kernel
theorem dX8_put_32 : decode cX8_put 32 = .ok (.invokevirtual 279, 3) := by decide +kernel
theorem dX8_put_35 : decode cX8_put 35 = .ok (.istore_n 3, 1) := by decide +kernel
theorem dX8_put_36 : decode cX8_put 36 = .ok (.iload_n 3, 1) := by decide +kernel
theorem dX8_put_37 : decode cX8_put 37 = .ok (.ifCond .lt 11, 3) := by decide +kernel
theorem dX8_put_40 : decode cX8_put 40 = .ok (.aload_n 0, 1) := by decide +kernel
theorem dX8_put_41 : decode cX8_put 41 = .ok (.aload_n 0, 1) := by decide +kernel
theorem dX8_put_42 : decode cX8_put 42 = .ok (.getfield 29, 3) := by decide +kernel
theorem dX8_put_45 : decode cX8_put 45 = .ok (.invokevirtual 282, 3) := by decide +kernel
theorem dX8_put_48 : decode cX8_put 48 = .ok (.iload_n 3, 1) := by decide +kernel
theorem dX8_put_49 : decode cX8_put 49 = .ok (.ireturn, 1) := by decide +kernel
theorem dX8_putAll_0 : decode cX8_putAll 0 = .ok (.aload_n 0, 1) := by decide +kernel
theorem dX8_putAll_1 : decode cX8_putAll 1 = .ok (.iconst 0, 1) := by decide +kernel
theorem dX8_putAll_2 : decode cX8_putAll 2 = .ok (.putfield 103, 3) := by decide +kernel
theorem dX8_putAll_5 : decode cX8_putAll 5 = .ok (.aload_n 0, 1) := by decide +kernel
theorem dX8_putAll_6 : decode cX8_putAll 6 = .ok (.aload_n 0, 1) := by decide +kernel
theorem dX8_putAll_7 : decode cX8_putAll 7 = .ok (.getfield 29, 3) := by decide +kernel
theorem dX8_putAll_10 : decode cX8_putAll 10 = .ok (.aload_n 0, 1) := by decide +kernel
theorem dX8_putAll_11 : decode cX8_putAll 11 = .ok (.getfield 16, 3) := by decide +kernel
theorem dX8_putAll_14 : decode cX8_putAll 14 = .ok (.getfield 113, 3) := by decide +kernel
theorem dX8_putAll_17 : decode cX8_putAll 17 = .ok (.iconst 0, 1) := by decide +kernel
theorem dX8_putAll_18 : decode cX8_putAll 18 = .ok (.aload_n 0, 1) := by decide +kernel
theorem dX8_putAll_19 : decode cX8_putAll 19 = .ok (.getfield 16, 3) := by decide +kernel
theorem dX8_putAll_22 : decode cX8_putAll 22 = .ok (.getfield 112, 3) := by decide +kernel
theorem dX8_putAll_25 : decode cX8_putAll 25 = .ok (.iconst 0, 1) := by decide +kernel
theorem dX8_putAll_26 : decode cX8_putAll 26 = .ok (.invokevirtual 206, 3) := by decide +kernel
theorem dX8_putAll_29 : decode cX8_putAll 29 = .ok (.istore_n 2, 1) := by decide +kernel
theorem dX8_putAll_30 : decode cX8_putAll 30 = .ok (.aload_n 0, 1) := by decide +kernel
theorem dX8_putAll_31 : decode cX8_putAll 31 = .ok (.iload_n 1, 1) := by decide +kernel
theorem dX8_putAll_32 : decode cX8_putAll 32 = .ok (.invokevirtual 279, 3) := by decide +kernel
theorem dX8_putAll_35 : decode cX8_putAll 35 = .ok (.istore_n 3, 1) := by decide +kernel
theorem dX8_putAll_36 : decode cX8_putAll 36 = .ok (.iload_n 3, 1) := by decide +kernel
theorem dX8_putAll_37 : decode cX8_putAll 37 = .ok (.ifCond .ge 6, 3) := by decide +kernel
theorem dX8_putAll_40 : decode cX8_putAll 40 = .ok (.bipush (-2), 2) := by decide +kernel
theorem dX8_putAll_42 : decode cX8_putAll 42 = .ok (.ireturn, 1) := by decide +kernel
theorem dX8_putAll_43 : decode cX8_putAll 43 = .ok (.iconst 0, 1) := by decide +kernel
theorem dX8_putAll_44 : decode cX8_putAll 44 = .ok (.istore 4, 2) := by decide +kernel
theorem dX8_putAll_46 : decode cX8_putAll 46 = .ok (.iload_n 3, 1) := by decide +kernel
theorem dX8_putAll_47 : decode cX8_putAll 47 = .ok (.ifCond .le 48, 3) := by decide +kernel
theorem dX8_putAll_50 : decode cX8_putAll 50 = .ok (.iinc 4 1, 3) := by decide +kernel
theorem dX8_putAll_53 : decode cX8_putAll 53 = .ok (.iload 4, 2) := by decide +kernel
theorem dX8_putAll_55 : decode cX8_putAll 55 = .ok (.bipush 20, 2) := by decide +kernel
theorem dX8_putAll_57 : decode cX8_putAll 57 = .ok (.if_icmp .ne 29, 3) := by decide +kernel
theorem dX8_putAll_60 : decode cX8_putAll 60 = .ok (.iload_n 1, 1) := by decide +kernel
theorem dX8_putAll_61 : decode cX8_putAll 61 = .ok (.iconst 0, 1) := by decide +kernel
theorem dX8_putAll_62 : decode cX8_putAll 62 = .ok (.iconst 2, 1) := by decide +kernel
theorem dX8_putAll_63 : decode cX8_putAll 63 = .ok (.invokestatic 202, 3) := by decide +kernel
theorem dX8_putAll_66 : decode cX8_putAll 66 = .ok (.ifCond .eq 15, 3) := by decide +kernel
theorem dX8_putAll_69 : decode cX8_putAll 69 = .ok (.aload_n 0, 1) := by decide +kernel
theorem dX8_putAll_70 : decode cX8_putAll 70 = .ok (.iload_n 1, 1) := by decide +kernel
theorem dX8_putAll_71 : decode cX8_putAll 71 = .ok (.invokevirtual 263, 3) := by decide +kernel
theorem dX8_putAll_74 : decode cX8_putAll 74 = .ok (.ifCond .le 7, 3) := by decide +kernel
theorem dX8_putAll_77 : decode cX8_putAll 77 = .ok (.iconst (-1), 1) := by decide +kernel
theorem dX8_putAll_78 : decode cX8_putAll 78 = .ok (.goto 4, 3) := by decide +kernel
theorem dX8_putAll_81 : decode cX8_putAll 81 = .ok (.iconst 0, 1) := by decide +kernel
theorem dX8_putAll_82 : decode cX8_putAll 82 = .ok (.istore_n 3, 1) := by decide +kernel
theorem dX8_putAll_83 : decode cX8_putAll 83 = .ok (.goto (-37), 3) := by decide +kernel
theorem dX8_putAll_86 : decode cX8_putAll 86 = .ok (.aload_n 0, 1) := by decide +kernel
theorem dX8_putAll_87 : decode cX8_putAll 87 = .ok (.iload_n 1, 1) := by decide +kernel
theorem dX8_putAll_88 : decode cX8_putAll 88 = .ok (.invokevirtual 279, 3) := by decide +kernel
theorem dX8_putAll_91 : decode cX8_putAll 91 = .ok (.istore_n 3, 1) := by decide +kernel
theorem dX8_putAll_92 : decode cX8_putAll 92 = .ok (.goto (-46), 3) := by decide +kernel
theorem dX8_putAll_95 : decode cX8_putAll 95 = .ok (.iload_n 3, 1) := by decide +kernel
theorem dX8_putAll_96 : decode cX8_putAll 96 = .ok (.ifCond .ge 30, 3) := by decide +kernel
theorem dX8_putAll_99 : decode cX8_putAll 99 = .ok (.aload_n 0, 1) := by decide +kernel
theorem dX8_putAll_100 : decode cX8_putAll 100 = .ok (.aload_n 0, 1) := by decide +kernel
theorem dX8_putAll_101 : decode cX8_putAll 101 = .ok (.getfield 16, 3) := by decide +kernel
theorem dX8_putAll_104 : decode cX8_putAll 104 = .ok (.aload_n 0, 1) := by decide +kernel
theorem dX8_putAll_105 : decode cX8_putAll 105 = .ok (.getfield 29, 3) := by decide +kernel
theorem dX8_putAll_108 : decode cX8_putAll 108 = .ok (.getfield 113, 3) := by decide +kernel
theorem dX8_putAll_111 : decode cX8_putAll 111 = .ok (.iconst 0, 1) := by decide +kernel
theorem dX8_putAll_112 : decode cX8_putAll 112 = .ok (.aload_n 0, 1) := by decide +kernel
theorem dX8_putAll_113 : decode cX8_putAll 113 = .ok (.getfield 29, 3) := by decide +kernel
theorem dX8_putAll_116 : decode cX8_putAll 116 = .ok (.getfield 112, 3) := by decide +kernel
theorem dX8_putAll_119 : decode cX8_putAll 119 = .ok (.iconst 0, 1) := by decide +kernel
theorem dX8_putAll_120 : decode cX8_putAll 120 = .ok (.invokevirtual 206, 3) := by decide +kernel
theorem dX8_putAll_123 : decode cX8_putAll 123 = .ok (.istore_n 2, 1) := by decide +kernel
theorem dX8_putAll_124 : decode cX8_putAll 124 = .ok (.iconst (-1), 1) := by decide +kernel
theorem dX8_putAll_125 : decode cX8_putAll 125 = .ok (.ireturn, 1) := by decide +kernel
theorem dX8_putAll_126 : decode cX8_putAll 126 = .ok (.aload_n 0, 1) := by decide +kernel
theorem dX8_putAll_127 : decode cX8_putAll 127 = .ok (.aload_n 0, 1) := by decide +kernel
theorem dX8_putAll_128 : decode cX8_putAll 128 = .ok (.getfield 29, 3) := by decide +kernel
theorem dX8_putAll_131 : decode cX8_putAll 131 = .ok (.invokevirtual 282, 3) := by decide +kernel
theorem dX8_putAll_134 : decode cX8_putAll 134 = .ok (.iload 4, 2) := by decide +kernel
theorem dX8_putAll_136 : decode cX8_putAll 136 = .ok (.ireturn, 1) := by decide +kernel
theorem dX8_back_0 : decode cX8_back 0 = .ok (.aload_n 0, 1) := by decide +kernel
theorem dX8_back_1 : decode cX8_back 1 = .ok (.iconst 0, 1) := by decide +kernel
theorem dX8_back_2 : decode cX8_back 2 = .ok (.putfield 103, 3) := by decide +kernel
theorem dX8_back_5 : decode cX8_back 5 = .ok (.aload_n 0, 1) := by decide +kernel
theorem dX8_back_6 : decode cX8_back 6 = .ok (.getfield 212, 3) := by decide +kernel
theorem dX8_back_9 : decode cX8_back 9 = .ok (.ifCond .ne 5, 3) := by decide +kernel
theorem dX8_back_12 : decode cX8_back 12 = .ok (.iconst 0, 1) := by decide +kernel
theorem dX8_back_13 : decode cX8_back 13 = .ok (.ireturn, 1) := by decide +kernel
theorem dX8_back_14 : decode cX8_back 14 = .ok (.aload_n 0, 1) := by decide +kernel
theorem dX8_back_15 : decode cX8_back 15 = .ok (.dup, 1) := by decide +kernel
theorem dX8_back_16 : decode cX8_back 16 = .ok (.getfield 212, 3) := by decide +kernel
theorem dX8_back_19 : decode cX8_back 19 = .ok (.iconst 1, 1) := by decide +kernel
theorem dX8_back_20 : decode cX8_back 20 = .ok (.isub, 1) := by decide +kernel
theorem dX8_back_21 : decode cX8_back 21 = .ok (.putfield 212, 3) := by decide +kernel
theorem dX8_back_24 : decode cX8_back 24 = .ok (.aload_n 0, 1) := by decide +kernel
theorem dX8_back_25 : decode cX8_back 25 = .ok (.aload_n 0, 1) := by decide +kernel
theorem dX8_back_26 : decode cX8_back 26 = .ok (.getfield 16, 3) := by decide +kernel
theorem dX8_back_29 : decode cX8_back 29 = .ok (.aload_n 0, 1) := by decide +kernel
theorem dX8_back_30 : decode cX8_back 30 = .ok (.getfield 32, 3) := by decide +kernel
theorem dX8_back_33 : decode cX8_back 33 = .ok (.sipush 240, 3) := by decide +kernel
theorem dX8_back_36 : decode cX8_back 36 = .ok (.aload_n 0, 1) := by decide +kernel
theorem dX8_back_37 : decode cX8_back 37 = .ok (.getfield 212, 3) := by decide +kernel
theorem dX8_back_40 : decode cX8_back 40 = .ok (.imul, 1) := by decide +kernel
theorem dX8_back_41 : decode cX8_back 41 = .ok (.aload_n 0, 1) := by decide +kernel
theorem dX8_back_42 : decode cX8_back 42 = .ok (.getfield 35, 3) := by decide +kernel
theorem dX8_back_45 : decode cX8_back 45 = .ok (.aload_n 0, 1) := by decide +kernel
theorem dX8_back_46 : decode cX8_back 46 = .ok (.getfield 212, 3) := by decide +kernel
theorem dX8_back_49 : decode cX8_back 49 = .ok (.iaload, 1) := by decide +kernel
theorem dX8_back_50 : decode cX8_back 50 = .ok (.iconst 0, 1) := by decide +kernel
theorem dX8_back_51 : decode cX8_back 51 = .ok (.invokevirtual 206, 3) := by decide +kernel
theorem dX8_back_54 : decode cX8_back 54 = .ok (.istore_n 1, 1) := by decide +kernel
theorem dX8_back_55 : decode cX8_back 55 = .ok (.iconst 1, 1) := by decide +kernel
theorem dX8_back_56 : decode cX8_back 56 = .ok (.ireturn, 1) := by decide +kernel
theorem dX8_node_0 : decode cX8_node 0 = .ok (.aload_n 0, 1) := by decide +kernel
theorem dX8_node_1 : decode cX8_node 1 = .ok (.iconst 0, 1) := by decide +kernel
theorem dX8_node_2 : decode cX8_node 2 = .ok (.putfield 103, 3) := by decide +kernel
theorem dX8_node_5 : decode cX8_node 5 = .ok (.aload_n 0, 1) := by decide +kernel
theorem dX8_node_6 : decode cX8_node 6 = .ok (.iload_n 1, 1) := by decide +kernel
theorem dX8_node_7 : decode cX8_node 7 = .ok (.invokevirtual 224, 3) := by decide +kernel
theorem dX8_node_10 : decode cX8_node 10 = .ok (.ifCond .ne 5, 3) := by decide +kernel
theorem dX8_node_13 : decode cX8_node 13 = .ok (.iconst (-1), 1) := by decide +kernel
theorem dX8_node_14 : decode cX8_node 14 = .ok (.ireturn, 1) := by decide +kernel
theorem dX8_node_15 : decode cX8_node 15 = .ok (.iload_n 2, 1) := by decide +kernel
theorem dX8_node_16 : decode cX8_node 16 = .ok (.tableswitch 72 0 3 #[32, 42, 52, 62], 32) := by decide +kernel
theorem dX8_node_48 : decode cX8_node 48 = .ok (.aload_n 0, 1) := by decide +kernel
theorem dX8_node_49 : decode cX8_node 49 = .ok (.getfield 16, 3) := by decide +kernel
theorem dX8_node_52 : decode cX8_node 52 = .ok (.getfield 128, 3) := by decide +kernel
theorem dX8_node_55 : decode cX8_node 55 = .ok (.iload_n 1, 1) := by decide +kernel
theorem dX8_node_56 : decode cX8_node 56 = .ok (.iaload, 1) := by decide +kernel
theorem dX8_node_57 : decode cX8_node 57 = .ok (.ireturn, 1) := by decide +kernel
theorem dX8_node_58 : decode cX8_node 58 = .ok (.aload_n 0, 1) := by decide +kernel
theorem dX8_node_59 : decode cX8_node 59 = .ok (.getfield 16, 3) := by decide +kernel
theorem dX8_node_62 : decode cX8_node 62 = .ok (.getfield 154, 3) := by decide +kernel
theorem dX8_node_65 : decode cX8_node 65 = .ok (.iload_n 1, 1) := by decide +kernel
theorem dX8_node_66 : decode cX8_node 66 = .ok (.iaload, 1) := by decide +kernel
theorem dX8_node_67 : decode cX8_node 67 = .ok (.ireturn, 1) := by decide +kernel
theorem dX8_node_68 : decode cX8_node 68 = .ok (.aload_n 0, 1) := by decide +kernel
theorem dX8_node_69 : decode cX8_node 69 = .ok (.getfield 16, 3) := by decide +kernel
theorem dX8_node_72 : decode cX8_node 72 = .ok (.getfield 134, 3) := by decide +kernel
theorem dX8_node_75 : decode cX8_node 75 = .ok (.iload_n 1, 1) := by decide +kernel
theorem dX8_node_76 : decode cX8_node 76 = .ok (.iaload, 1) := by decide +kernel
theorem dX8_node_77 : decode cX8_node 77 = .ok (.ireturn, 1) := by decide +kernel
theorem dX8_node_78 : decode cX8_node 78 = .ok (.aload_n 0, 1) := by decide +kernel
theorem dX8_node_79 : decode cX8_node 79 = .ok (.getfield 16, 3) := by decide +kernel
theorem dX8_node_82 : decode cX8_node 82 = .ok (.getfield 131, 3) := by decide +kernel
theorem dX8_node_85 : decode cX8_node 85 = .ok (.iload_n 1, 1) := by decide +kernel
theorem dX8_node_86 : decode cX8_node 86 = .ok (.iaload, 1) := by decide +kernel
theorem dX8_node_87 : decode cX8_node 87 = .ok (.ireturn, 1) := by decide +kernel
theorem dX8_node_88 : decode cX8_node 88 = .ok (.iconst (-1), 1) := by decide +kernel
theorem dX8_node_89 : decode cX8_node 89 = .ok (.ireturn, 1) := by decide +kernel
theorem dX8_at_0 : decode cX8_at 0 = .ok (.aload_n 0, 1) := by decide +kernel
theorem dX8_at_1 : decode cX8_at 1 = .ok (.iload_n 1, 1) := by decide +kernel
theorem dX8_at_2 : decode cX8_at 2 = .ok (.ifCond .lt 14, 3) := by decide +kernel
theorem dX8_at_5 : decode cX8_at 5 = .ok (.iload_n 1, 1) := by decide +kernel
theorem dX8_at_6 : decode cX8_at 6 = .ok (.aload_n 0, 1) := by decide +kernel
theorem dX8_at_7 : decode cX8_at 7 = .ok (.getfield 16, 3) := by decide +kernel
theorem dX8_at_10 : decode cX8_at 10 = .ok (.getfield 112, 3) := by decide +kernel
theorem dX8_at_13 : decode cX8_at 13 = .ok (.if_icmp .lt 7, 3) := by decide +kernel
theorem dX8_at_16 : decode cX8_at 16 = .ok (.iconst 1, 1) := by decide +kernel
theorem dX8_at_17 : decode cX8_at 17 = .ok (.goto 4, 3) := by decide +kernel
theorem dX8_at_20 : decode cX8_at 20 = .ok (.iconst 0, 1) := by decide +kernel
theorem dX8_at_21 : decode cX8_at 21 = .ok (.putfield 103, 3) := by decide +kernel
theorem dX8_at_24 : decode cX8_at 24 = .ok (.aload_n 0, 1) := by decide +kernel
theorem dX8_at_25 : decode cX8_at 25 = .ok (.getfield 103, 3) := by decide +kernel
theorem dX8_at_28 : decode cX8_at 28 = .ok (.ifCond .le 7, 3) := by decide +kernel
theorem dX8_at_31 : decode cX8_at 31 = .ok (.iconst 0, 1) := by decide +kernel
theorem dX8_at_32 : decode cX8_at 32 = .ok (.goto 16, 3) := by decide +kernel
theorem dX8_at_35 : decode cX8_at 35 = .ok (.aload_n 0, 1) := by decide +kernel
theorem dX8_at_36 : decode cX8_at 36 = .ok (.getfield 16, 3) := by decide +kernel
theorem dX8_at_39 : decode cX8_at 39 = .ok (.getfield 113, 3) := by decide +kernel
theorem dX8_at_42 : decode cX8_at 42 = .ok (.iload_n 1, 1) := by decide +kernel
theorem dX8_at_43 : decode cX8_at 43 = .ok (.baload, 1) := by decide +kernel
theorem dX8_at_44 : decode cX8_at 44 = .ok (.sipush 255, 3) := by decide +kernel
theorem dX8_at_47 : decode cX8_at 47 = .ok (.iand, 1) := by decide +kernel
theorem dX8_at_48 : decode cX8_at 48 = .ok (.ireturn, 1) := by decide +kernel
theorem dX8_count_0 : decode cX8_count 0 = .ok (.aload_n 0, 1) := by decide +kernel
theorem dX8_count_1 : decode cX8_count 1 = .ok (.iconst 0, 1) := by decide +kernel
theorem dX8_count_2 : decode cX8_count 2 = .ok (.putfield 103, 3) := by decide +kernel
theorem dX8_count_5 : decode cX8_count 5 = .ok (.iload_n 1, 1) := by decide +kernel
theorem dX8_count_6 : decode cX8_count 6 = .ok (.tableswitch 68 0 4 #[34, 42, 50, 58, 63], 34) := by decide +kernel
theorem dX8_count_40 : decode cX8_count 40 = .ok (.aload_n 0, 1) := by decide +kernel
theorem dX8_count_41 : decode cX8_count 41 = .ok (.getfield 16, 3) := by decide +kernel
theorem dX8_count_44 : decode cX8_count 44 = .ok (.getfield 112, 3) := by decide +kernel
theorem dX8_count_47 : decode cX8_count 47 = .ok (.ireturn, 1) := by decide +kernel
theorem dX8_count_48 : decode cX8_count 48 = .ok (.aload_n 0, 1) := by decide +kernel
theorem dX8_count_49 : decode cX8_count 49 = .ok (.getfield 20, 3) := by decide +kernel
theorem dX8_count_52 : decode cX8_count 52 = .ok (.getfield 112, 3) := by decide +kernel
theorem dX8_count_55 : decode cX8_count 55 = .ok (.ireturn, 1) := by decide +kernel
theorem dX8_count_56 : decode cX8_count 56 = .ok (.aload_n 0, 1) := by decide +kernel
theorem dX8_count_57 : decode cX8_count 57 = .ok (.getfield 23, 3) := by decide +kernel
theorem dX8_count_60 : decode cX8_count 60 = .ok (.getfield 112, 3) := by decide +kernel
theorem dX8_count_63 : decode cX8_count 63 = .ok (.ireturn, 1) := by decide +kernel
theorem dX8_count_64 : decode cX8_count 64 = .ok (.aload_n 0, 1) := by decide +kernel
theorem dX8_count_65 : decode cX8_count 65 = .ok (.getfield 95, 3) := by decide +kernel
theorem dX8_count_68 : decode cX8_count 68 = .ok (.ireturn, 1) := by decide +kernel
theorem dX8_count_69 : decode cX8_count 69 = .ok (.aload_n 0, 1) := by decide +kernel
theorem dX8_count_70 : decode cX8_count 70 = .ok (.getfield 212, 3) := by decide +kernel
theorem dX8_count_73 : decode cX8_count 73 = .ok (.ireturn, 1) := by decide +kernel
theorem dX8_count_74 : decode cX8_count 74 = .ok (.iconst (-1), 1) := by decide +kernel
theorem dX8_count_75 : decode cX8_count 75 = .ok (.ireturn, 1) := by decide +kernel
theorem dL_at_0 : decode cL_at 0 = .ok (.aload_n 2, 1) := by decide +kernel
theorem dL_at_1 : decode cL_at 1 = .ok (.iconst 0, 1) := by decide +kernel
theorem dL_at_2 : decode cL_at 2 = .ok (.aload_n 0, 1) := by decide +kernel
theorem dL_at_3 : decode cL_at 3 = .ok (.iload_n 1, 1) := by decide +kernel
theorem dL_at_4 : decode cL_at 4 = .ok (.invokevirtual 7, 3) := by decide +kernel
theorem dL_at_7 : decode cL_at 7 = .ok (.i2l, 1) := by decide +kernel
theorem dL_at_8 : decode cL_at 8 = .ok (.lastore, 1) := by decide +kernel
theorem dL_at_9 : decode cL_at 9 = .ok (.goto 6, 3) := by decide +kernel
theorem dL_at_12 : decode cL_at 12 = .ok (.astore_n 3, 1) := by decide +kernel
theorem dL_at_13 : decode cL_at 13 = .ok (.iconst 1, 1) := by decide +kernel
theorem dL_at_14 : decode cL_at 14 = .ok (.ireturn, 1) := by decide +kernel
theorem dL_at_15 : decode cL_at 15 = .ok (.iconst 0, 1) := by decide +kernel
theorem dL_at_16 : decode cL_at 16 = .ok (.ireturn, 1) := by decide +kernel
theorem dL_law_0 : decode cL_law 0 = .ok (.new 8, 3) := by decide +kernel
theorem dL_law_3 : decode cL_law 3 = .ok (.dup, 1) := by decide +kernel
theorem dL_law_4 : decode cL_law 4 = .ok (.invokespecial 15, 3) := by decide +kernel
theorem dL_law_7 : decode cL_law 7 = .ok (.astore_n 1, 1) := by decide +kernel
theorem dL_law_8 : decode cL_law 8 = .ok (.new 16, 3) := by decide +kernel
theorem dL_law_11 : decode cL_law 11 = .ok (.dup, 1) := by decide +kernel
theorem dL_law_12 : decode cL_law 12 = .ok (.invokespecial 18, 3) := by decide +kernel
theorem dL_law_15 : decode cL_law 15 = .ok (.astore_n 2, 1) := by decide +kernel
theorem dL_law_16 : decode cL_law 16 = .ok (.iconst 1, 1) := by decide +kernel
theorem dL_law_17 : decode cL_law 17 = .ok (.newarray .long, 2) := by decide +kernel
theorem dL_law_19 : decode cL_law 19 = .ok (.astore_n 3, 1) := by decide +kernel
theorem dL_law_20 : decode cL_law 20 = .ok (.iconst 0, 1) := by decide +kernel
theorem dL_law_21 : decode cL_law 21 = .ok (.istore 4, 2) := by decide +kernel
theorem dL_law_23 : decode cL_law 23 = .ok (.iload 4, 2) := by decide +kernel
theorem dL_law_25 : decode cL_law 25 = .ok (.aload_n 0, 1) := by decide +kernel
theorem dL_law_26 : decode cL_law 26 = .ok (.arraylength, 1) := by decide +kernel
theorem dL_law_27 : decode cL_law 27 = .ok (.bipush 6, 2) := by decide +kernel
theorem dL_law_29 : decode cL_law 29 = .ok (.isub, 1) := by decide +kernel
theorem dL_law_30 : decode cL_law 30 = .ok (.if_icmp .gt 726, 3) := by decide +kernel
theorem dL_law_33 : decode cL_law 33 = .ok (.aload_n 0, 1) := by decide +kernel
theorem dL_law_34 : decode cL_law 34 = .ok (.iload 4, 2) := by decide +kernel
theorem dL_law_36 : decode cL_law 36 = .ok (.iaload, 1) := by decide +kernel
theorem dL_law_37 : decode cL_law 37 = .ok (.bipush 31, 2) := by decide +kernel
theorem dL_law_39 : decode cL_law 39 = .ok (.iand, 1) := by decide +kernel
theorem dL_law_40 : decode cL_law 40 = .ok (.tableswitch 710 0 18 #[92, 165, 190, 215, 240, 305, 318, 355, 392, 405, 430, 467, 504, 529, 566, 591, 616, 629, 685], 92) := by decide +kernel
theorem dL_law_132 : decode cL_law 132 = .ok (.aload_n 1, 1) := by decide +kernel
theorem dL_law_133 : decode cL_law 133 = .ok (.aload_n 0, 1) := by decide +kernel
theorem dL_law_134 : decode cL_law 134 = .ok (.iload 4, 2) := by decide +kernel
theorem dL_law_136 : decode cL_law 136 = .ok (.iconst 1, 1) := by decide +kernel
theorem dL_law_137 : decode cL_law 137 = .ok (.iadd, 1) := by decide +kernel
theorem dL_law_138 : decode cL_law 138 = .ok (.iaload, 1) := by decide +kernel
theorem dL_law_139 : decode cL_law 139 = .ok (.aload_n 0, 1) := by decide +kernel
theorem dL_law_140 : decode cL_law 140 = .ok (.iload 4, 2) := by decide +kernel
theorem dL_law_142 : decode cL_law 142 = .ok (.iconst 2, 1) := by decide +kernel
theorem dL_law_143 : decode cL_law 143 = .ok (.iadd, 1) := by decide +kernel
theorem dL_law_144 : decode cL_law 144 = .ok (.iaload, 1) := by decide +kernel
theorem dL_law_145 : decode cL_law 145 = .ok (.aload_n 0, 1) := by decide +kernel
theorem dL_law_146 : decode cL_law 146 = .ok (.iload 4, 2) := by decide +kernel
theorem dL_law_148 : decode cL_law 148 = .ok (.iconst 3, 1) := by decide +kernel
theorem dL_law_149 : decode cL_law 149 = .ok (.iadd, 1) := by decide +kernel
theorem dL_law_150 : decode cL_law 150 = .ok (.iaload, 1) := by decide +kernel
theorem dL_law_151 : decode cL_law 151 = .ok (.aload_n 0, 1) := by decide +kernel
theorem dL_law_152 : decode cL_law 152 = .ok (.iload 4, 2) := by decide +kernel
theorem dL_law_154 : decode cL_law 154 = .ok (.iconst 4, 1) := by decide +kernel
theorem dL_law_155 : decode cL_law 155 = .ok (.iadd, 1) := by decide +kernel
theorem dL_law_156 : decode cL_law 156 = .ok (.iaload, 1) := by decide +kernel
theorem dL_law_157 : decode cL_law 157 = .ok (.aload_n 0, 1) := by decide +kernel
theorem dL_law_158 : decode cL_law 158 = .ok (.iload 4, 2) := by decide +kernel
theorem dL_law_160 : decode cL_law 160 = .ok (.iconst 5, 1) := by decide +kernel
theorem dL_law_161 : decode cL_law 161 = .ok (.iadd, 1) := by decide +kernel
theorem dL_law_162 : decode cL_law 162 = .ok (.iaload, 1) := by decide +kernel
theorem dL_law_163 : decode cL_law 163 = .ok (.invokevirtual 19, 3) := by decide +kernel
theorem dL_law_166 : decode cL_law 166 = .ok (.aload_n 2, 1) := by decide +kernel
theorem dL_law_167 : decode cL_law 167 = .ok (.aload_n 0, 1) := by decide +kernel
theorem dL_law_168 : decode cL_law 168 = .ok (.iload 4, 2) := by decide +kernel
theorem dL_law_170 : decode cL_law 170 = .ok (.iconst 1, 1) := by decide +kernel
theorem dL_law_171 : decode cL_law 171 = .ok (.iadd, 1) := by decide +kernel
theorem dL_law_172 : decode cL_law 172 = .ok (.iaload, 1) := by decide +kernel
theorem dL_law_173 : decode cL_law 173 = .ok (.aload_n 0, 1) := by decide +kernel
theorem dL_law_174 : decode cL_law 174 = .ok (.iload 4, 2) := by decide +kernel
theorem dL_law_176 : decode cL_law 176 = .ok (.iconst 2, 1) := by decide +kernel
theorem dL_law_177 : decode cL_law 177 = .ok (.iadd, 1) := by decide +kernel
theorem dL_law_178 : decode cL_law 178 = .ok (.iaload, 1) := by decide +kernel
theorem dL_law_179 : decode cL_law 179 = .ok (.aload_n 0, 1) := by decide +kernel
theorem dL_law_180 : decode cL_law 180 = .ok (.iload 4, 2) := by decide +kernel
theorem dL_law_182 : decode cL_law 182 = .ok (.iconst 3, 1) := by decide +kernel
theorem dL_law_183 : decode cL_law 183 = .ok (.iadd, 1) := by decide +kernel
theorem dL_law_184 : decode cL_law 184 = .ok (.iaload, 1) := by decide +kernel
theorem dL_law_185 : decode cL_law 185 = .ok (.aload_n 0, 1) := by decide +kernel
theorem dL_law_186 : decode cL_law 186 = .ok (.iload 4, 2) := by decide +kernel
theorem dL_law_188 : decode cL_law 188 = .ok (.iconst 4, 1) := by decide +kernel
theorem dL_law_189 : decode cL_law 189 = .ok (.iadd, 1) := by decide +kernel
theorem dL_law_190 : decode cL_law 190 = .ok (.iaload, 1) := by decide +kernel
theorem dL_law_191 : decode cL_law 191 = .ok (.aload_n 0, 1) := by decide +kernel
theorem dL_law_192 : decode cL_law 192 = .ok (.iload 4, 2) := by decide +kernel
theorem dL_law_194 : decode cL_law 194 = .ok (.iconst 5, 1) := by decide +kernel
theorem dL_law_195 : decode cL_law 195 = .ok (.iadd, 1) := by decide +kernel
theorem dL_law_196 : decode cL_law 196 = .ok (.iaload, 1) := by decide +kernel
theorem dL_law_197 : decode cL_law 197 = .ok (.invokevirtual 23, 3) := by decide +kernel
theorem dL_law_200 : decode cL_law 200 = .ok (.if_icmp .eq 550, 3) := by decide +kernel
theorem dL_law_203 : decode cL_law 203 = .ok (.iconst 0, 1) := by decide +kernel
theorem dL_law_204 : decode cL_law 204 = .ok (.ireturn, 1) := by decide +kernel
theorem dL_law_205 : decode cL_law 205 = .ok (.aload_n 1, 1) := by decide +kernel
theorem dL_law_206 : decode cL_law 206 = .ok (.aload_n 0, 1) := by decide +kernel
theorem dL_law_207 : decode cL_law 207 = .ok (.iload 4, 2) := by decide +kernel
theorem dL_law_209 : decode cL_law 209 = .ok (.iconst 1, 1) := by decide +kernel
theorem dL_law_210 : decode cL_law 210 = .ok (.iadd, 1) := by decide +kernel
theorem dL_law_211 : decode cL_law 211 = .ok (.iaload, 1) := by decide +kernel
theorem dL_law_212 : decode cL_law 212 = .ok (.invokevirtual 24, 3) := by decide +kernel
theorem dL_law_215 : decode cL_law 215 = .ok (.aload_n 2, 1) := by decide +kernel
theorem dL_law_216 : decode cL_law 216 = .ok (.aload_n 0, 1) := by decide +kernel
theorem dL_law_217 : decode cL_law 217 = .ok (.iload 4, 2) := by decide +kernel
theorem dL_law_219 : decode cL_law 219 = .ok (.iconst 1, 1) := by decide +kernel
theorem dL_law_220 : decode cL_law 220 = .ok (.iadd, 1) := by decide +kernel
theorem dL_law_221 : decode cL_law 221 = .ok (.iaload, 1) := by decide +kernel
theorem dL_law_222 : decode cL_law 222 = .ok (.invokevirtual 28, 3) := by decide +kernel
theorem dL_law_225 : decode cL_law 225 = .ok (.if_icmp .eq 525, 3) := by decide +kernel
theorem dL_law_228 : decode cL_law 228 = .ok (.iconst 0, 1) := by decide +kernel
theorem dL_law_229 : decode cL_law 229 = .ok (.ireturn, 1) := by decide +kernel
theorem dL_law_230 : decode cL_law 230 = .ok (.aload_n 1, 1) := by decide +kernel
theorem dL_law_231 : decode cL_law 231 = .ok (.aload_n 0, 1) := by decide +kernel
theorem dL_law_232 : decode cL_law 232 = .ok (.iload 4, 2) := by decide +kernel
theorem dL_law_234 : decode cL_law 234 = .ok (.iconst 1, 1) := by decide +kernel
theorem dL_law_235 : decode cL_law 235 = .ok (.iadd, 1) := by decide +kernel
theorem dL_law_236 : decode cL_law 236 = .ok (.iaload, 1) := by decide +kernel
theorem dL_law_237 : decode cL_law 237 = .ok (.invokevirtual 29, 3) := by decide +kernel
theorem dL_law_240 : decode cL_law 240 = .ok (.aload_n 2, 1) := by decide +kernel
theorem dL_law_241 : decode cL_law 241 = .ok (.aload_n 0, 1) := by decide +kernel
theorem dL_law_242 : decode cL_law 242 = .ok (.iload 4, 2) := by decide +kernel
theorem dL_law_244 : decode cL_law 244 = .ok (.iconst 1, 1) := by decide +kernel
theorem dL_law_245 : decode cL_law 245 = .ok (.iadd, 1) := by decide +kernel
theorem dL_law_246 : decode cL_law 246 = .ok (.iaload, 1) := by decide +kernel
theorem dL_law_247 : decode cL_law 247 = .ok (.invokevirtual 32, 3) := by decide +kernel
theorem dL_law_250 : decode cL_law 250 = .ok (.if_icmp .eq 500, 3) := by decide +kernel
theorem dL_law_253 : decode cL_law 253 = .ok (.iconst 0, 1) := by decide +kernel
theorem dL_law_254 : decode cL_law 254 = .ok (.ireturn, 1) := by decide +kernel
theorem dL_law_255 : decode cL_law 255 = .ok (.aload_n 1, 1) := by decide +kernel
theorem dL_law_256 : decode cL_law 256 = .ok (.aload_n 0, 1) := by decide +kernel
theorem dL_law_257 : decode cL_law 257 = .ok (.iload 4, 2) := by decide +kernel
theorem dL_law_259 : decode cL_law 259 = .ok (.iconst 1, 1) := by decide +kernel
theorem dL_law_260 : decode cL_law 260 = .ok (.iadd, 1) := by decide +kernel
theorem dL_law_261 : decode cL_law 261 = .ok (.iaload, 1) := by decide +kernel
theorem dL_law_262 : decode cL_law 262 = .ok (.invokevirtual 33, 3) := by decide +kernel
theorem dL_law_265 : decode cL_law 265 = .ok (.aload_n 2, 1) := by decide +kernel
theorem dL_law_266 : decode cL_law 266 = .ok (.aload_n 0, 1) := by decide +kernel
theorem dL_law_267 : decode cL_law 267 = .ok (.iload 4, 2) := by decide +kernel
theorem dL_law_269 : decode cL_law 269 = .ok (.iconst 1, 1) := by decide +kernel
theorem dL_law_270 : decode cL_law 270 = .ok (.iadd, 1) := by decide +kernel
theorem dL_law_271 : decode cL_law 271 = .ok (.iaload, 1) := by decide +kernel
theorem dL_law_272 : decode cL_law 272 = .ok (.invokevirtual 36, 3) := by decide +kernel
theorem dL_law_275 : decode cL_law 275 = .ok (.if_icmp .eq 475, 3) := by decide +kernel
theorem dL_law_278 : decode cL_law 278 = .ok (.iconst 0, 1) := by decide +kernel
theorem dL_law_279 : decode cL_law 279 = .ok (.ireturn, 1) := by decide +kernel
theorem dL_law_280 : decode cL_law 280 = .ok (.aload_n 1, 1) := by decide +kernel
theorem dL_law_281 : decode cL_law 281 = .ok (.aload_n 0, 1) := by decide +kernel
theorem dL_law_282 : decode cL_law 282 = .ok (.iload 4, 2) := by decide +kernel
theorem dL_law_284 : decode cL_law 284 = .ok (.iconst 1, 1) := by decide +kernel
theorem dL_law_285 : decode cL_law 285 = .ok (.iadd, 1) := by decide +kernel
theorem dL_law_286 : decode cL_law 286 = .ok (.iaload, 1) := by decide +kernel
theorem dL_law_287 : decode cL_law 287 = .ok (.aload_n 0, 1) := by decide +kernel
theorem dL_law_288 : decode cL_law 288 = .ok (.iload 4, 2) := by decide +kernel
theorem dL_law_290 : decode cL_law 290 = .ok (.iconst 2, 1) := by decide +kernel
theorem dL_law_291 : decode cL_law 291 = .ok (.iadd, 1) := by decide +kernel
theorem dL_law_292 : decode cL_law 292 = .ok (.iaload, 1) := by decide +kernel
theorem dL_law_293 : decode cL_law 293 = .ok (.aload_n 0, 1) := by decide +kernel
theorem dL_law_294 : decode cL_law 294 = .ok (.iload 4, 2) := by decide +kernel
theorem dL_law_296 : decode cL_law 296 = .ok (.iconst 3, 1) := by decide +kernel
theorem dL_law_297 : decode cL_law 297 = .ok (.iadd, 1) := by decide +kernel
theorem dL_law_298 : decode cL_law 298 = .ok (.iaload, 1) := by decide +kernel
theorem dL_law_299 : decode cL_law 299 = .ok (.ifCond .eq 7, 3) := by decide +kernel
theorem dL_law_302 : decode cL_law 302 = .ok (.iconst 1, 1) := by decide +kernel
theorem dL_law_303 : decode cL_law 303 = .ok (.goto 4, 3) := by decide +kernel
theorem dL_law_306 : decode cL_law 306 = .ok (.iconst 0, 1) := by decide +kernel
theorem dL_law_307 : decode cL_law 307 = .ok (.invokevirtual 37, 3) := by decide +kernel
theorem dL_law_310 : decode cL_law 310 = .ok (.aload_n 2, 1) := by decide +kernel
theorem dL_law_311 : decode cL_law 311 = .ok (.aload_n 0, 1) := by decide +kernel
theorem dL_law_312 : decode cL_law 312 = .ok (.iload 4, 2) := by decide +kernel
theorem dL_law_314 : decode cL_law 314 = .ok (.iconst 1, 1) := by decide +kernel
theorem dL_law_315 : decode cL_law 315 = .ok (.iadd, 1) := by decide +kernel
theorem dL_law_316 : decode cL_law 316 = .ok (.iaload, 1) := by decide +kernel
theorem dL_law_317 : decode cL_law 317 = .ok (.aload_n 0, 1) := by decide +kernel
theorem dL_law_318 : decode cL_law 318 = .ok (.iload 4, 2) := by decide +kernel
theorem dL_law_320 : decode cL_law 320 = .ok (.iconst 2, 1) := by decide +kernel
theorem dL_law_321 : decode cL_law 321 = .ok (.iadd, 1) := by decide +kernel
theorem dL_law_322 : decode cL_law 322 = .ok (.iaload, 1) := by decide +kernel
theorem dL_law_323 : decode cL_law 323 = .ok (.aload_n 0, 1) := by decide +kernel
theorem dL_law_324 : decode cL_law 324 = .ok (.iload 4, 2) := by decide +kernel
theorem dL_law_326 : decode cL_law 326 = .ok (.iconst 3, 1) := by decide +kernel
theorem dL_law_327 : decode cL_law 327 = .ok (.iadd, 1) := by decide +kernel
theorem dL_law_328 : decode cL_law 328 = .ok (.iaload, 1) := by decide +kernel
theorem dL_law_329 : decode cL_law 329 = .ok (.ifCond .eq 7, 3) := by decide +kernel
theorem dL_law_332 : decode cL_law 332 = .ok (.iconst 1, 1) := by decide +kernel
theorem dL_law_333 : decode cL_law 333 = .ok (.goto 4, 3) := by decide +kernel
theorem dL_law_336 : decode cL_law 336 = .ok (.iconst 0, 1) := by decide +kernel
theorem dL_law_337 : decode cL_law 337 = .ok (.invokevirtual 41, 3) := by decide +kernel
theorem dL_law_340 : decode cL_law 340 = .ok (.if_icmp .eq 410, 3) := by decide +kernel
theorem dL_law_343 : decode cL_law 343 = .ok (.iconst 0, 1) := by decide +kernel
theorem dL_law_344 : decode cL_law 344 = .ok (.ireturn, 1) := by decide +kernel
theorem dL_law_345 : decode cL_law 345 = .ok (.aload_n 1, 1) := by decide +kernel
theorem dL_law_346 : decode cL_law 346 = .ok (.invokevirtual 42, 3) := by decide +kernel
theorem dL_law_349 : decode cL_law 349 = .ok (.aload_n 2, 1) := by decide +kernel
theorem dL_law_350 : decode cL_law 350 = .ok (.invokevirtual 46, 3) := by decide +kernel
theorem dL_law_353 : decode cL_law 353 = .ok (.if_icmp .eq 397, 3) := by decide +kernel
theorem dL_law_356 : decode cL_law 356 = .ok (.iconst 0, 1) := by decide +kernel
theorem dL_law_357 : decode cL_law 357 = .ok (.ireturn, 1) := by decide +kernel
theorem dL_law_358 : decode cL_law 358 = .ok (.aload_n 1, 1) := by decide +kernel
theorem dL_law_359 : decode cL_law 359 = .ok (.aload_n 0, 1) := by decide +kernel
theorem dL_law_360 : decode cL_law 360 = .ok (.iload 4, 2) := by decide +kernel
theorem dL_law_362 : decode cL_law 362 = .ok (.iconst 1, 1) := by decide +kernel
theorem dL_law_363 : decode cL_law 363 = .ok (.iadd, 1) := by decide +kernel
theorem dL_law_364 : decode cL_law 364 = .ok (.iaload, 1) := by decide +kernel
theorem dL_law_365 : decode cL_law 365 = .ok (.aload_n 0, 1) := by decide +kernel
theorem dL_law_366 : decode cL_law 366 = .ok (.iload 4, 2) := by decide +kernel
theorem dL_law_368 : decode cL_law 368 = .ok (.iconst 2, 1) := by decide +kernel
theorem dL_law_369 : decode cL_law 369 = .ok (.iadd, 1) := by decide +kernel
end
section
theorem dL_law_370 : decode cL_law 370 = .ok (.iaload, 1) := by decide +kernel
theorem dL_law_371 : decode cL_law 371 = .ok (.invokevirtual 47, 3) := by decide +kernel
theorem dL_law_374 : decode cL_law 374 = .ok (.aload_n 2, 1) := by decide +kernel
theorem dL_law_375 : decode cL_law 375 = .ok (.aload_n 0, 1) := by decide +kernel
theorem dL_law_376 : decode cL_law 376 = .ok (.iload 4, 2) := by decide +kernel
theorem dL_law_378 : decode cL_law 378 = .ok (.iconst 1, 1) := by decide +kernel
theorem dL_law_379 : decode cL_law 379 = .ok (.iadd, 1) := by decide +kernel
theorem dL_law_380 : decode cL_law 380 = .ok (.iaload, 1) := by decide +kernel
theorem dL_law_381 : decode cL_law 381 = .ok (.aload_n 0, 1) := by decide +kernel
theorem dL_law_382 : decode cL_law 382 = .ok (.iload 4, 2) := by decide +kernel
theorem dL_law_384 : decode cL_law 384 = .ok (.iconst 2, 1) := by decide +kernel
theorem dL_law_385 : decode cL_law 385 = .ok (.iadd, 1) := by decide +kernel
theorem dL_law_386 : decode cL_law 386 = .ok (.iaload, 1) := by decide +kernel
theorem dL_law_387 : decode cL_law 387 = .ok (.invokevirtual 51, 3) := by decide +kernel
theorem dL_law_390 : decode cL_law 390 = .ok (.if_icmp .eq 360, 3) := by decide +kernel
theorem dL_law_393 : decode cL_law 393 = .ok (.iconst 0, 1) := by decide +kernel
theorem dL_law_394 : decode cL_law 394 = .ok (.ireturn, 1) := by decide +kernel
theorem dL_law_395 : decode cL_law 395 = .ok (.aload_n 1, 1) := by decide +kernel
theorem dL_law_396 : decode cL_law 396 = .ok (.aload_n 0, 1) := by decide +kernel
theorem dL_law_397 : decode cL_law 397 = .ok (.iload 4, 2) := by decide +kernel
theorem dL_law_399 : decode cL_law 399 = .ok (.iconst 1, 1) := by decide +kernel
theorem dL_law_400 : decode cL_law 400 = .ok (.iadd, 1) := by decide +kernel
theorem dL_law_401 : decode cL_law 401 = .ok (.iaload, 1) := by decide +kernel
theorem dL_law_402 : decode cL_law 402 = .ok (.aload_n 0, 1) := by decide +kernel
theorem dL_law_403 : decode cL_law 403 = .ok (.iload 4, 2) := by decide +kernel
theorem dL_law_405 : decode cL_law 405 = .ok (.iconst 2, 1) := by decide +kernel
theorem dL_law_406 : decode cL_law 406 = .ok (.iadd, 1) := by decide +kernel
theorem dL_law_407 : decode cL_law 407 = .ok (.iaload, 1) := by decide +kernel
theorem dL_law_408 : decode cL_law 408 = .ok (.invokevirtual 52, 3) := by decide +kernel
theorem dL_law_411 : decode cL_law 411 = .ok (.aload_n 2, 1) := by decide +kernel
theorem dL_law_412 : decode cL_law 412 = .ok (.aload_n 0, 1) := by decide +kernel
theorem dL_law_413 : decode cL_law 413 = .ok (.iload 4, 2) := by decide +kernel
theorem dL_law_415 : decode cL_law 415 = .ok (.iconst 1, 1) := by decide +kernel
theorem dL_law_416 : decode cL_law 416 = .ok (.iadd, 1) := by decide +kernel
theorem dL_law_417 : decode cL_law 417 = .ok (.iaload, 1) := by decide +kernel
theorem dL_law_418 : decode cL_law 418 = .ok (.aload_n 0, 1) := by decide +kernel
theorem dL_law_419 : decode cL_law 419 = .ok (.iload 4, 2) := by decide +kernel
theorem dL_law_421 : decode cL_law 421 = .ok (.iconst 2, 1) := by decide +kernel
theorem dL_law_422 : decode cL_law 422 = .ok (.iadd, 1) := by decide +kernel
theorem dL_law_423 : decode cL_law 423 = .ok (.iaload, 1) := by decide +kernel
theorem dL_law_424 : decode cL_law 424 = .ok (.invokevirtual 56, 3) := by decide +kernel
theorem dL_law_427 : decode cL_law 427 = .ok (.if_icmp .eq 323, 3) := by decide +kernel
theorem dL_law_430 : decode cL_law 430 = .ok (.iconst 0, 1) := by decide +kernel
theorem dL_law_431 : decode cL_law 431 = .ok (.ireturn, 1) := by decide +kernel
theorem dL_law_432 : decode cL_law 432 = .ok (.aload_n 1, 1) := by decide +kernel
theorem dL_law_433 : decode cL_law 433 = .ok (.invokevirtual 57, 3) := by decide +kernel
theorem dL_law_436 : decode cL_law 436 = .ok (.aload_n 2, 1) := by decide +kernel
theorem dL_law_437 : decode cL_law 437 = .ok (.invokevirtual 60, 3) := by decide +kernel
theorem dL_law_440 : decode cL_law 440 = .ok (.if_icmp .eq 310, 3) := by decide +kernel
theorem dL_law_443 : decode cL_law 443 = .ok (.iconst 0, 1) := by decide +kernel
theorem dL_law_444 : decode cL_law 444 = .ok (.ireturn, 1) := by decide +kernel
theorem dL_law_445 : decode cL_law 445 = .ok (.aload_n 1, 1) := by decide +kernel
theorem dL_law_446 : decode cL_law 446 = .ok (.aload_n 0, 1) := by decide +kernel
theorem dL_law_447 : decode cL_law 447 = .ok (.iload 4, 2) := by decide +kernel
theorem dL_law_449 : decode cL_law 449 = .ok (.iconst 1, 1) := by decide +kernel
theorem dL_law_450 : decode cL_law 450 = .ok (.iadd, 1) := by decide +kernel
theorem dL_law_451 : decode cL_law 451 = .ok (.iaload, 1) := by decide +kernel
theorem dL_law_452 : decode cL_law 452 = .ok (.invokevirtual 61, 3) := by decide +kernel
theorem dL_law_455 : decode cL_law 455 = .ok (.aload_n 2, 1) := by decide +kernel
theorem dL_law_456 : decode cL_law 456 = .ok (.aload_n 0, 1) := by decide +kernel
theorem dL_law_457 : decode cL_law 457 = .ok (.iload 4, 2) := by decide +kernel
theorem dL_law_459 : decode cL_law 459 = .ok (.iconst 1, 1) := by decide +kernel
theorem dL_law_460 : decode cL_law 460 = .ok (.iadd, 1) := by decide +kernel
theorem dL_law_461 : decode cL_law 461 = .ok (.iaload, 1) := by decide +kernel
theorem dL_law_462 : decode cL_law 462 = .ok (.invokevirtual 64, 3) := by decide +kernel
theorem dL_law_465 : decode cL_law 465 = .ok (.if_icmp .eq 285, 3) := by decide +kernel
theorem dL_law_468 : decode cL_law 468 = .ok (.iconst 0, 1) := by decide +kernel
theorem dL_law_469 : decode cL_law 469 = .ok (.ireturn, 1) := by decide +kernel
theorem dL_law_470 : decode cL_law 470 = .ok (.aload_n 1, 1) := by decide +kernel
theorem dL_law_471 : decode cL_law 471 = .ok (.aload_n 0, 1) := by decide +kernel
theorem dL_law_472 : decode cL_law 472 = .ok (.iload 4, 2) := by decide +kernel
theorem dL_law_474 : decode cL_law 474 = .ok (.iconst 1, 1) := by decide +kernel
theorem dL_law_475 : decode cL_law 475 = .ok (.iadd, 1) := by decide +kernel
theorem dL_law_476 : decode cL_law 476 = .ok (.iaload, 1) := by decide +kernel
theorem dL_law_477 : decode cL_law 477 = .ok (.aload_n 0, 1) := by decide +kernel
theorem dL_law_478 : decode cL_law 478 = .ok (.iload 4, 2) := by decide +kernel
theorem dL_law_480 : decode cL_law 480 = .ok (.iconst 2, 1) := by decide +kernel
theorem dL_law_481 : decode cL_law 481 = .ok (.iadd, 1) := by decide +kernel
theorem dL_law_482 : decode cL_law 482 = .ok (.iaload, 1) := by decide +kernel
theorem dL_law_483 : decode cL_law 483 = .ok (.invokevirtual 65, 3) := by decide +kernel
theorem dL_law_486 : decode cL_law 486 = .ok (.aload_n 2, 1) := by decide +kernel
theorem dL_law_487 : decode cL_law 487 = .ok (.aload_n 0, 1) := by decide +kernel
theorem dL_law_488 : decode cL_law 488 = .ok (.iload 4, 2) := by decide +kernel
theorem dL_law_490 : decode cL_law 490 = .ok (.iconst 1, 1) := by decide +kernel
theorem dL_law_491 : decode cL_law 491 = .ok (.iadd, 1) := by decide +kernel
theorem dL_law_492 : decode cL_law 492 = .ok (.iaload, 1) := by decide +kernel
theorem dL_law_493 : decode cL_law 493 = .ok (.aload_n 0, 1) := by decide +kernel
theorem dL_law_494 : decode cL_law 494 = .ok (.iload 4, 2) := by decide +kernel
theorem dL_law_496 : decode cL_law 496 = .ok (.iconst 2, 1) := by decide +kernel
theorem dL_law_497 : decode cL_law 497 = .ok (.iadd, 1) := by decide +kernel
theorem dL_law_498 : decode cL_law 498 = .ok (.iaload, 1) := by decide +kernel
theorem dL_law_499 : decode cL_law 499 = .ok (.invokevirtual 68, 3) := by decide +kernel
theorem dL_law_502 : decode cL_law 502 = .ok (.if_icmp .eq 248, 3) := by decide +kernel
theorem dL_law_505 : decode cL_law 505 = .ok (.iconst 0, 1) := by decide +kernel
theorem dL_law_506 : decode cL_law 506 = .ok (.ireturn, 1) := by decide +kernel
theorem dL_law_507 : decode cL_law 507 = .ok (.aload_n 1, 1) := by decide +kernel
theorem dL_law_508 : decode cL_law 508 = .ok (.aload_n 0, 1) := by decide +kernel
theorem dL_law_509 : decode cL_law 509 = .ok (.iload 4, 2) := by decide +kernel
theorem dL_law_511 : decode cL_law 511 = .ok (.iconst 1, 1) := by decide +kernel
theorem dL_law_512 : decode cL_law 512 = .ok (.iadd, 1) := by decide +kernel
theorem dL_law_513 : decode cL_law 513 = .ok (.iaload, 1) := by decide +kernel
theorem dL_law_514 : decode cL_law 514 = .ok (.aload_n 0, 1) := by decide +kernel
theorem dL_law_515 : decode cL_law 515 = .ok (.iload 4, 2) := by decide +kernel
theorem dL_law_517 : decode cL_law 517 = .ok (.iconst 2, 1) := by decide +kernel
theorem dL_law_518 : decode cL_law 518 = .ok (.iadd, 1) := by decide +kernel
theorem dL_law_519 : decode cL_law 519 = .ok (.iaload, 1) := by decide +kernel
theorem dL_law_520 : decode cL_law 520 = .ok (.invokevirtual 69, 3) := by decide +kernel
theorem dL_law_523 : decode cL_law 523 = .ok (.aload_n 2, 1) := by decide +kernel
theorem dL_law_524 : decode cL_law 524 = .ok (.aload_n 0, 1) := by decide +kernel
theorem dL_law_525 : decode cL_law 525 = .ok (.iload 4, 2) := by decide +kernel
theorem dL_law_527 : decode cL_law 527 = .ok (.iconst 1, 1) := by decide +kernel
theorem dL_law_528 : decode cL_law 528 = .ok (.iadd, 1) := by decide +kernel
theorem dL_law_529 : decode cL_law 529 = .ok (.iaload, 1) := by decide +kernel
theorem dL_law_530 : decode cL_law 530 = .ok (.aload_n 0, 1) := by decide +kernel
theorem dL_law_531 : decode cL_law 531 = .ok (.iload 4, 2) := by decide +kernel
theorem dL_law_533 : decode cL_law 533 = .ok (.iconst 2, 1) := by decide +kernel
theorem dL_law_534 : decode cL_law 534 = .ok (.iadd, 1) := by decide +kernel
theorem dL_law_535 : decode cL_law 535 = .ok (.iaload, 1) := by decide +kernel
theorem dL_law_536 : decode cL_law 536 = .ok (.invokevirtual 72, 3) := by decide +kernel
theorem dL_law_539 : decode cL_law 539 = .ok (.if_icmp .eq 211, 3) := by decide +kernel
theorem dL_law_542 : decode cL_law 542 = .ok (.iconst 0, 1) := by decide +kernel
theorem dL_law_543 : decode cL_law 543 = .ok (.ireturn, 1) := by decide +kernel
theorem dL_law_544 : decode cL_law 544 = .ok (.aload_n 1, 1) := by decide +kernel
theorem dL_law_545 : decode cL_law 545 = .ok (.aload_n 0, 1) := by decide +kernel
theorem dL_law_546 : decode cL_law 546 = .ok (.iload 4, 2) := by decide +kernel
theorem dL_law_548 : decode cL_law 548 = .ok (.iconst 1, 1) := by decide +kernel
theorem dL_law_549 : decode cL_law 549 = .ok (.iadd, 1) := by decide +kernel
theorem dL_law_550 : decode cL_law 550 = .ok (.iaload, 1) := by decide +kernel
theorem dL_law_551 : decode cL_law 551 = .ok (.invokevirtual 73, 3) := by decide +kernel
theorem dL_law_554 : decode cL_law 554 = .ok (.aload_n 2, 1) := by decide +kernel
theorem dL_law_555 : decode cL_law 555 = .ok (.aload_n 0, 1) := by decide +kernel
theorem dL_law_556 : decode cL_law 556 = .ok (.iload 4, 2) := by decide +kernel
theorem dL_law_558 : decode cL_law 558 = .ok (.iconst 1, 1) := by decide +kernel
theorem dL_law_559 : decode cL_law 559 = .ok (.iadd, 1) := by decide +kernel
theorem dL_law_560 : decode cL_law 560 = .ok (.iaload, 1) := by decide +kernel
theorem dL_law_561 : decode cL_law 561 = .ok (.invokevirtual 76, 3) := by decide +kernel
theorem dL_law_564 : decode cL_law 564 = .ok (.if_icmp .eq 186, 3) := by decide +kernel
theorem dL_law_567 : decode cL_law 567 = .ok (.iconst 0, 1) := by decide +kernel
theorem dL_law_568 : decode cL_law 568 = .ok (.ireturn, 1) := by decide +kernel
theorem dL_law_569 : decode cL_law 569 = .ok (.aload_n 1, 1) := by decide +kernel
theorem dL_law_570 : decode cL_law 570 = .ok (.aload_n 0, 1) := by decide +kernel
theorem dL_law_571 : decode cL_law 571 = .ok (.iload 4, 2) := by decide +kernel
theorem dL_law_573 : decode cL_law 573 = .ok (.iconst 1, 1) := by decide +kernel
theorem dL_law_574 : decode cL_law 574 = .ok (.iadd, 1) := by decide +kernel
theorem dL_law_575 : decode cL_law 575 = .ok (.iaload, 1) := by decide +kernel
theorem dL_law_576 : decode cL_law 576 = .ok (.aload_n 0, 1) := by decide +kernel
theorem dL_law_577 : decode cL_law 577 = .ok (.iload 4, 2) := by decide +kernel
theorem dL_law_579 : decode cL_law 579 = .ok (.iconst 2, 1) := by decide +kernel
theorem dL_law_580 : decode cL_law 580 = .ok (.iadd, 1) := by decide +kernel
theorem dL_law_581 : decode cL_law 581 = .ok (.iaload, 1) := by decide +kernel
theorem dL_law_582 : decode cL_law 582 = .ok (.invokevirtual 77, 3) := by decide +kernel
theorem dL_law_585 : decode cL_law 585 = .ok (.aload_n 2, 1) := by decide +kernel
theorem dL_law_586 : decode cL_law 586 = .ok (.aload_n 0, 1) := by decide +kernel
theorem dL_law_587 : decode cL_law 587 = .ok (.iload 4, 2) := by decide +kernel
theorem dL_law_589 : decode cL_law 589 = .ok (.iconst 1, 1) := by decide +kernel
theorem dL_law_590 : decode cL_law 590 = .ok (.iadd, 1) := by decide +kernel
theorem dL_law_591 : decode cL_law 591 = .ok (.iaload, 1) := by decide +kernel
theorem dL_law_592 : decode cL_law 592 = .ok (.aload_n 0, 1) := by decide +kernel
theorem dL_law_593 : decode cL_law 593 = .ok (.iload 4, 2) := by decide +kernel
theorem dL_law_595 : decode cL_law 595 = .ok (.iconst 2, 1) := by decide +kernel
theorem dL_law_596 : decode cL_law 596 = .ok (.iadd, 1) := by decide +kernel
theorem dL_law_597 : decode cL_law 597 = .ok (.iaload, 1) := by decide +kernel
theorem dL_law_598 : decode cL_law 598 = .ok (.invokevirtual 80, 3) := by decide +kernel
theorem dL_law_601 : decode cL_law 601 = .ok (.if_icmp .eq 149, 3) := by decide +kernel
theorem dL_law_604 : decode cL_law 604 = .ok (.iconst 0, 1) := by decide +kernel
theorem dL_law_605 : decode cL_law 605 = .ok (.ireturn, 1) := by decide +kernel
theorem dL_law_606 : decode cL_law 606 = .ok (.aload_n 1, 1) := by decide +kernel
theorem dL_law_607 : decode cL_law 607 = .ok (.aload_n 0, 1) := by decide +kernel
theorem dL_law_608 : decode cL_law 608 = .ok (.iload 4, 2) := by decide +kernel
theorem dL_law_610 : decode cL_law 610 = .ok (.iconst 1, 1) := by decide +kernel
theorem dL_law_611 : decode cL_law 611 = .ok (.iadd, 1) := by decide +kernel
theorem dL_law_612 : decode cL_law 612 = .ok (.iaload, 1) := by decide +kernel
theorem dL_law_613 : decode cL_law 613 = .ok (.invokevirtual 81, 3) := by decide +kernel
theorem dL_law_616 : decode cL_law 616 = .ok (.aload_n 2, 1) := by decide +kernel
theorem dL_law_617 : decode cL_law 617 = .ok (.aload_n 0, 1) := by decide +kernel
theorem dL_law_618 : decode cL_law 618 = .ok (.iload 4, 2) := by decide +kernel
theorem dL_law_620 : decode cL_law 620 = .ok (.iconst 1, 1) := by decide +kernel
theorem dL_law_621 : decode cL_law 621 = .ok (.iadd, 1) := by decide +kernel
theorem dL_law_622 : decode cL_law 622 = .ok (.iaload, 1) := by decide +kernel
theorem dL_law_623 : decode cL_law 623 = .ok (.invokevirtual 84, 3) := by decide +kernel
theorem dL_law_626 : decode cL_law 626 = .ok (.if_icmp .eq 124, 3) := by decide +kernel
theorem dL_law_629 : decode cL_law 629 = .ok (.iconst 0, 1) := by decide +kernel
theorem dL_law_630 : decode cL_law 630 = .ok (.ireturn, 1) := by decide +kernel
theorem dL_law_631 : decode cL_law 631 = .ok (.aload_n 1, 1) := by decide +kernel
theorem dL_law_632 : decode cL_law 632 = .ok (.aload_n 0, 1) := by decide +kernel
theorem dL_law_633 : decode cL_law 633 = .ok (.iload 4, 2) := by decide +kernel
theorem dL_law_635 : decode cL_law 635 = .ok (.iconst 1, 1) := by decide +kernel
theorem dL_law_636 : decode cL_law 636 = .ok (.iadd, 1) := by decide +kernel
theorem dL_law_637 : decode cL_law 637 = .ok (.iaload, 1) := by decide +kernel
theorem dL_law_638 : decode cL_law 638 = .ok (.invokevirtual 85, 3) := by decide +kernel
theorem dL_law_641 : decode cL_law 641 = .ok (.aload_n 2, 1) := by decide +kernel
theorem dL_law_642 : decode cL_law 642 = .ok (.aload_n 0, 1) := by decide +kernel
theorem dL_law_643 : decode cL_law 643 = .ok (.iload 4, 2) := by decide +kernel
theorem dL_law_645 : decode cL_law 645 = .ok (.iconst 1, 1) := by decide +kernel
theorem dL_law_646 : decode cL_law 646 = .ok (.iadd, 1) := by decide +kernel
theorem dL_law_647 : decode cL_law 647 = .ok (.iaload, 1) := by decide +kernel
theorem dL_law_648 : decode cL_law 648 = .ok (.invokevirtual 88, 3) := by decide +kernel
theorem dL_law_651 : decode cL_law 651 = .ok (.if_icmp .eq 99, 3) := by decide +kernel
theorem dL_law_654 : decode cL_law 654 = .ok (.iconst 0, 1) := by decide +kernel
theorem dL_law_655 : decode cL_law 655 = .ok (.ireturn, 1) := by decide +kernel
theorem dL_law_656 : decode cL_law 656 = .ok (.aload_n 1, 1) := by decide +kernel
theorem dL_law_657 : decode cL_law 657 = .ok (.invokevirtual 89, 3) := by decide +kernel
theorem dL_law_660 : decode cL_law 660 = .ok (.aload_n 2, 1) := by decide +kernel
theorem dL_law_661 : decode cL_law 661 = .ok (.invokevirtual 93, 3) := by decide +kernel
theorem dL_law_664 : decode cL_law 664 = .ok (.if_icmp .eq 86, 3) := by decide +kernel
theorem dL_law_667 : decode cL_law 667 = .ok (.iconst 0, 1) := by decide +kernel
theorem dL_law_668 : decode cL_law 668 = .ok (.ireturn, 1) := by decide +kernel
theorem dL_law_669 : decode cL_law 669 = .ok (.aload_n 1, 1) := by decide +kernel
theorem dL_law_670 : decode cL_law 670 = .ok (.aload_n 0, 1) := by decide +kernel
theorem dL_law_671 : decode cL_law 671 = .ok (.iload 4, 2) := by decide +kernel
theorem dL_law_673 : decode cL_law 673 = .ok (.iconst 1, 1) := by decide +kernel
theorem dL_law_674 : decode cL_law 674 = .ok (.iadd, 1) := by decide +kernel
theorem dL_law_675 : decode cL_law 675 = .ok (.iaload, 1) := by decide +kernel
theorem dL_law_676 : decode cL_law 676 = .ok (.aload_n 3, 1) := by decide +kernel
theorem dL_law_677 : decode cL_law 677 = .ok (.invokestatic 94, 3) := by decide +kernel
theorem dL_law_680 : decode cL_law 680 = .ok (.istore 5, 2) := by decide +kernel
theorem dL_law_682 : decode cL_law 682 = .ok (.aload_n 2, 1) := by decide +kernel
theorem dL_law_683 : decode cL_law 683 = .ok (.aload_n 0, 1) := by decide +kernel
theorem dL_law_684 : decode cL_law 684 = .ok (.iload 4, 2) := by decide +kernel
theorem dL_law_686 : decode cL_law 686 = .ok (.iconst 1, 1) := by decide +kernel
theorem dL_law_687 : decode cL_law 687 = .ok (.iadd, 1) := by decide +kernel
theorem dL_law_688 : decode cL_law 688 = .ok (.iaload, 1) := by decide +kernel
theorem dL_law_689 : decode cL_law 689 = .ok (.invokevirtual 99, 3) := by decide +kernel
theorem dL_law_692 : decode cL_law 692 = .ok (.istore 6, 2) := by decide +kernel
theorem dL_law_694 : decode cL_law 694 = .ok (.aload_n 2, 1) := by decide +kernel
theorem dL_law_695 : decode cL_law 695 = .ok (.invokevirtual 100, 3) := by decide +kernel
theorem dL_law_698 : decode cL_law 698 = .ok (.iload 5, 2) := by decide +kernel
theorem dL_law_700 : decode cL_law 700 = .ok (.if_icmp .eq 5, 3) := by decide +kernel
theorem dL_law_703 : decode cL_law 703 = .ok (.iconst 0, 1) := by decide +kernel
theorem dL_law_704 : decode cL_law 704 = .ok (.ireturn, 1) := by decide +kernel
theorem dL_law_705 : decode cL_law 705 = .ok (.iload 5, 2) := by decide +kernel
theorem dL_law_707 : decode cL_law 707 = .ok (.ifCond .ne 15, 3) := by decide +kernel
theorem dL_law_710 : decode cL_law 710 = .ok (.aload_n 3, 1) := by decide +kernel
theorem dL_law_711 : decode cL_law 711 = .ok (.iconst 0, 1) := by decide +kernel
theorem dL_law_712 : decode cL_law 712 = .ok (.laload, 1) := by decide +kernel
theorem dL_law_713 : decode cL_law 713 = .ok (.iload 6, 2) := by decide +kernel
theorem dL_law_715 : decode cL_law 715 = .ok (.i2l, 1) := by decide +kernel
theorem dL_law_716 : decode cL_law 716 = .ok (.lcmp, 1) := by decide +kernel
theorem dL_law_717 : decode cL_law 717 = .ok (.ifCond .eq 5, 3) := by decide +kernel
theorem dL_law_720 : decode cL_law 720 = .ok (.iconst 0, 1) := by decide +kernel
theorem dL_law_721 : decode cL_law 721 = .ok (.ireturn, 1) := by decide +kernel
theorem dL_law_722 : decode cL_law 722 = .ok (.goto 28, 3) := by decide +kernel
theorem dL_law_725 : decode cL_law 725 = .ok (.aload_n 1, 1) := by decide +kernel
theorem dL_law_726 : decode cL_law 726 = .ok (.aload_n 0, 1) := by decide +kernel
theorem dL_law_727 : decode cL_law 727 = .ok (.iload 4, 2) := by decide +kernel
theorem dL_law_729 : decode cL_law 729 = .ok (.iconst 1, 1) := by decide +kernel
theorem dL_law_730 : decode cL_law 730 = .ok (.iadd, 1) := by decide +kernel
theorem dL_law_731 : decode cL_law 731 = .ok (.iaload, 1) := by decide +kernel
theorem dL_law_732 : decode cL_law 732 = .ok (.invokevirtual 103, 3) := by decide +kernel
theorem dL_law_735 : decode cL_law 735 = .ok (.aload_n 2, 1) := by decide +kernel
theorem dL_law_736 : decode cL_law 736 = .ok (.aload_n 0, 1) := by decide +kernel
theorem dL_law_737 : decode cL_law 737 = .ok (.iload 4, 2) := by decide +kernel
theorem dL_law_739 : decode cL_law 739 = .ok (.iconst 1, 1) := by decide +kernel
theorem dL_law_740 : decode cL_law 740 = .ok (.iadd, 1) := by decide +kernel
theorem dL_law_741 : decode cL_law 741 = .ok (.iaload, 1) := by decide +kernel
theorem dL_law_742 : decode cL_law 742 = .ok (.invokevirtual 106, 3) := by decide +kernel
theorem dL_law_745 : decode cL_law 745 = .ok (.if_icmp .eq 5, 3) := by decide +kernel
theorem dL_law_748 : decode cL_law 748 = .ok (.iconst 0, 1) := by decide +kernel
theorem dL_law_749 : decode cL_law 749 = .ok (.ireturn, 1) := by decide +kernel
theorem dL_law_750 : decode cL_law 750 = .ok (.iinc 4 6, 3) := by decide +kernel
theorem dL_law_753 : decode cL_law 753 = .ok (.goto (-730), 3) := by decide +kernel
theorem dL_law_756 : decode cL_law 756 = .ok (.iconst 1, 1) := by decide +kernel
theorem dL_law_757 : decode cL_law 757 = .ok (.ireturn, 1) := by decide +kernel
end
section
/-! ===== THE PURE MACHINE, its words: shapes, values, heaps, methods ===== -/
/-- what a cell is: an object of the class of that number, or an array of so many -/
abbrev SH : Type := Nat ⊕ (FieldType × Nat)
/-- a value: a whole number, or a reference (0: the script; a + 1: the a-th cell made since the law began) -/
abbrev AV : Type := Int ⊕ Option Nat
/-- shapes, references, longs, cells made, slots made -/
abbrev AG : Type := List SH × (Nat → Nat → Option Nat) × (Nat → Nat → Int64) × Nat × Nat
/-- and the whole numbers: of a cell, of a place in it -/
abbrev AH : Type := AG × (Nat → Nat → Int)
abbrev AR : Type := Option AV × AH
/-- a method: its class, name, code, locals, type of answer, parameters, kind (0 of an object, 1 static, 2 a constructor) -/
abbrev MI : Type := Nat × MethodName × ByteArray × Nat × Option FieldType × Nat × Nat
/-- launch, classes and slots, classes of arrays, where the law's own cells begin, where the script lies, the heap at the law's start, whether cells may be made, the script's length, the script -/
abbrev GX : Type := Launch × va_G × (FieldType → ClassId) × Nat × Nat × Heap × Bool × Nat × (Nat → Int32)
abbrev gl (Γ : GX) : Launch := Γ.1
abbrev gD (Γ : GX) : va_G := Γ.2.1
abbrev gA (Γ : GX) : FieldType → ClassId := Γ.2.2.1
abbrev gB (Γ : GX) : Nat := Γ.2.2.2.1
abbrev gb (Γ : GX) : Nat := Γ.2.2.2.2.1
abbrev gH (Γ : GX) : Heap := Γ.2.2.2.2.2.1
abbrev gF (Γ : GX) : Bool := Γ.2.2.2.2.2.2.1
abbrev gL (Γ : GX) : Nat := Γ.2.2.2.2.2.2.2.1
abbrev gX (Γ : GX) : Nat → Int32 := Γ.2.2.2.2.2.2.2.2
def cN (i : Nat) : String := match i with
  | 0 => RX0
  | 1 => RX1
  | 2 => RX2
  | 3 => RX3
  | 4 => RX4
  | 5 => RX5
  | 6 => RX6
  | 7 => RX7
  | 8 => RX8
  | _ => RL
def cT (i : Nat) : u_T := match i with
  | 0 => TX0
  | 1 => TX1
  | 2 => TX2
  | 3 => TX3
  | 4 => TX4
  | 5 => TX5
  | 6 => TX6
  | 7 => TX7
  | _ => TX8
def cF (i : Nat) : Nat := match i with
  | 0 => 5
  | 1 => 16
  | 2 => 4
  | 3 => 4
  | 4 => 8
  | 5 => 13
  | 6 => 11
  | 7 => 11
  | _ => 39
def cy (i : Nat) : Nat → FieldType := match i with
  | 0 => tyX0
  | 1 => tyX1
  | 2 => tyX2
  | 3 => tyX3
  | 4 => tyX4
  | 5 => tyX5
  | 6 => tyX6
  | 7 => tyX7
  | _ => tyX8
theorem cl_at {ci : Nat} (h : ci < 9) : vwCl[ci]? = some (cN ci, cT ci, cF ci) := by
  rcases (show ci = 0 ∨ ci = 1 ∨ ci = 2 ∨ ci = 3 ∨ ci = 4 ∨ ci = 5 ∨ ci = 6 ∨ ci = 7 ∨ ci = 8 by omega) with rfl | rfl | rfl | rfl | rfl | rfl | rfl | rfl | rfl <;> rfl
theorem cl_lt {ci : Nat} {r : vw_C} (h : vwCl[ci]? = some r) : ci < 9 := by
  have := (List.getElem?_eq_some_iff.mp h).1
  simpa using this
theorem cy_ok {ci : Nat} (h : ci < 9) : ∀ k, k < cF ci → parseFieldDescriptor (cT ci k).2.2.1 = some (cy ci k) := by
  rcases (show ci = 0 ∨ ci = 1 ∨ ci = 2 ∨ ci = 3 ∨ ci = 4 ∨ ci = 5 ∨ ci = 6 ∨ ci = 7 ∨ ci = 8 by omega) with rfl | rfl | rfl | rfl | rfl | rfl | rfl | rfl | rfl
  · exact tyX0_ok
  · exact tyX1_ok
  · exact tyX2_ok
  · exact tyX3_ok
  · exact tyX4_ok
  · exact tyX5_ok
  · exact tyX6_ok
  · exact tyX7_ok
  · exact tyX8_ok
theorem cn_ok {ci : Nat} (h : ci < 9) : ∀ a, a < cF ci → ∀ b, b < cF ci → a ≠ b → (cT ci a).2.1 ≠ (cT ci b).2.1 := by
  rcases (show ci = 0 ∨ ci = 1 ∨ ci = 2 ∨ ci = 3 ∨ ci = 4 ∨ ci = 5 ∨ ci = 6 ∨ ci = 7 ∨ ci = 8 by omega) with rfl | rfl | rfl | rfl | rfl | rfl | rfl | rfl | rfl
  · exact nmX0
  · exact nmX1
  · exact nmX2
  · exact nmX3
  · exact nmX4
  · exact nmX5
  · exact nmX6
  · exact nmX7
  · exact nmX8
/-- the words that last -/
def lw_g : List Cond := lw_tbl.filter goodWord
theorem mem_g {w : Cond} (i : Nat) (h : lw_tbl[i]? = some w) (hg : goodWord w = true) : w ∈ lw_g := List.mem_filter.mpr ⟨List.mem_of_getElem? h, hg⟩
theorem mem_l {ws : List Cond} (h : ws.all (fun w => decide (w ∈ lw_tbl) && goodWord w) = true) : ∀ w ∈ ws, w ∈ lw_g := by
  intro w hw
  have h1 := List.all_eq_true.mp h w hw
  simp only [Bool.and_eq_true, decide_eq_true_eq] at h1
  exact List.mem_filter.mpr h1
theorem good_g : GoodIn lw_tbl lw_g := fun w hw => ⟨(List.mem_filter.mp hw).1, good_of_word (List.mem_filter.mp hw).2⟩
theorem good_gg : GoodIn lw_g lw_g := fun w hw => ⟨hw, good_of_word (List.mem_filter.mp hw).2⟩
set_option maxRecDepth 100000 in
theorem cw_0 : (u_ws (cN 0) (cT 0) (cF 0)).all (fun w => decide (w ∈ lw_tbl) && goodWord w) = true := by decide +kernel
set_option maxRecDepth 100000 in
theorem cw_1 : (u_ws (cN 1) (cT 1) (cF 1)).all (fun w => decide (w ∈ lw_tbl) && goodWord w) = true := by decide +kernel
set_option maxRecDepth 100000 in
theorem cw_2 : (u_ws (cN 2) (cT 2) (cF 2)).all (fun w => decide (w ∈ lw_tbl) && goodWord w) = true := by decide +kernel
set_option maxRecDepth 100000 in
theorem cw_3 : (u_ws (cN 3) (cT 3) (cF 3)).all (fun w => decide (w ∈ lw_tbl) && goodWord w) = true := by decide +kernel
set_option maxRecDepth 100000 in
theorem cw_4 : (u_ws (cN 4) (cT 4) (cF 4)).all (fun w => decide (w ∈ lw_tbl) && goodWord w) = true := by decide +kernel
set_option maxRecDepth 100000 in
theorem cw_5 : (u_ws (cN 5) (cT 5) (cF 5)).all (fun w => decide (w ∈ lw_tbl) && goodWord w) = true := by decide +kernel
set_option maxRecDepth 100000 in
theorem cw_6 : (u_ws (cN 6) (cT 6) (cF 6)).all (fun w => decide (w ∈ lw_tbl) && goodWord w) = true := by decide +kernel
set_option maxRecDepth 100000 in
theorem cw_7 : (u_ws (cN 7) (cT 7) (cF 7)).all (fun w => decide (w ∈ lw_tbl) && goodWord w) = true := by decide +kernel
set_option maxRecDepth 100000 in
theorem cw_8 : (u_ws (cN 8) (cT 8) (cF 8)).all (fun w => decide (w ∈ lw_tbl) && goodWord w) = true := by decide +kernel
theorem cw_ok {ci : Nat} (h : ci < 9) : ∀ w ∈ u_ws (cN ci) (cT ci) (cF ci), w ∈ lw_g := by
  rcases (show ci = 0 ∨ ci = 1 ∨ ci = 2 ∨ ci = 3 ∨ ci = 4 ∨ ci = 5 ∨ ci = 6 ∨ ci = 7 ∨ ci = 8 by omega) with rfl | rfl | rfl | rfl | rfl | rfl | rfl | rfl | rfl
  · exact mem_l cw_0
  · exact mem_l cw_1
  · exact mem_l cw_2
  · exact mem_l cw_3
  · exact mem_l cw_4
  · exact mem_l cw_5
  · exact mem_l cw_6
  · exact mem_l cw_7
  · exact mem_l cw_8
/-- what the tables say of a method -/
def MOk (q : MI) : Prop :=
  Cond.code q.2.1 q.2.2.1 q.2.2.2.1 q.2.2.2.2.1 ∈ lw_g ∧ (q.2.2.2.2.2.2 = 1 → Cond.static q.2.1 ∈ lw_g) ∧ (q.2.2.2.2.2.2 ≠ 1 → Cond.instanceMethod q.2.1 ∈ lw_g) ∧ (q.2.2.2.2.2.2 = 0 → Cond.selects q.2.1.cls q.2.1 q.2.1 ∈ lw_g) ∧
  Cond.initialized q.2.1.cls ∈ lw_g ∧ q.2.1.cls = cN q.1 ∧ (q.2.1.cls ≠ "java/lang/invoke/MethodHandle" ∧ q.2.1.cls ≠ "java/lang/invoke/VarHandle") ∧
  (parseMethodDescriptor q.2.1.desc).map (fun d => d.parameters.length) = some q.2.2.2.2.2.1 ∧ plainName q.2.1.cls = true ∧ q.2.2.2.1 ≤ 45 ∧
  q.2.2.2.2.2.1 + (if q.2.2.2.2.2.2 = 1 then 0 else 1) ≤ q.2.2.2.1 ∧ (q.2.2.2.2.2.2 = 2 → q.2.1.name = "<init>" ∧ q.2.2.2.2.1 = none)
end
section
/-- links to private fields of nest mates -/
def nF : List (String × Nat × String × String × String × String) := [("ShapeTool$Past", 20, "ShapeTool$Tree", "bytes", "[I", "ShapeTool"), ("ShapeTool$Putter", 41, "ShapeTool$Tree", "bytes", "[I", "ShapeTool"), ("ShapeTool$Reader", 34, "ShapeTool$Tree", "bytes", "[I", "ShapeTool"), ("ShapeTool", 199, "ShapeTool$Tree", "bytes", "[I", "ShapeTool"), ("ShapeTool$Putter", 26, "ShapeTool$Tree", "length", "I", "ShapeTool"), ("ShapeTool$Reader", 15, "ShapeTool$Tree", "length", "I", "ShapeTool"), ("ShapeTool$Past", 29, "ShapeTool$Tree", "length", "I", "ShapeTool"), ("ShapeTool", 189, "ShapeTool$Tree", "length", "I", "ShapeTool"), ("ShapeTool$Chooser", 33, "ShapeTool$Tree", "count", "I", "ShapeTool"), ("ShapeTool$Reader", 58, "ShapeTool$Tree", "count", "I", "ShapeTool"), ("ShapeTool$Putter", 87, "ShapeTool$Tree", "count", "I", "ShapeTool"), ("ShapeTool", 112, "ShapeTool$Tree", "count", "I", "ShapeTool"), ("ShapeTool$Finder", 60, "ShapeTool$Tree", "count", "I", "ShapeTool"), ("ShapeTool$Putter", 90, "ShapeTool$Tree", "kind", "[I", "ShapeTool"), ("ShapeTool$Reader", 99, "ShapeTool$Tree", "kind", "[I", "ShapeTool"), ("ShapeTool$Finder", 77, "ShapeTool$Tree", "kind", "[I", "ShapeTool"), ("ShapeTool$Putter", 44, "ShapeTool$Tree", "from", "[I", "ShapeTool"), ("ShapeTool", 118, "ShapeTool$Tree", "from", "[I", "ShapeTool"), ("ShapeTool$Reader", 116, "ShapeTool$Tree", "from", "[I", "ShapeTool"), ("ShapeTool$Reader", 119, "ShapeTool$Tree", "atomBehind", "[I", "ShapeTool"), ("ShapeTool$Putter", 61, "ShapeTool$Tree", "behind", "[I", "ShapeTool"), ("ShapeTool", 121, "ShapeTool$Tree", "behind", "[I", "ShapeTool"), ("ShapeTool$Reader", 122, "ShapeTool$Tree", "behind", "[I", "ShapeTool"), ("ShapeTool$Chooser", 48, "ShapeTool$Tree", "parent", "[I", "ShapeTool"), ("ShapeTool$Putter", 100, "ShapeTool$Tree", "parent", "[I", "ShapeTool"), ("ShapeTool", 132, "ShapeTool$Tree", "parent", "[I", "ShapeTool"), ("ShapeTool$Finder", 80, "ShapeTool$Tree", "parent", "[I", "ShapeTool"), ("ShapeTool$Reader", 125, "ShapeTool$Tree", "parent", "[I", "ShapeTool"), ("ShapeTool", 124, "ShapeTool$Tree", "terms", "[I", "ShapeTool"), ("ShapeTool$Reader", 128, "ShapeTool$Tree", "terms", "[I", "ShapeTool"), ("ShapeTool$Finder", 120, "ShapeTool$Tree", "terms", "[I", "ShapeTool"), ("ShapeTool$Reader", 131, "ShapeTool$Tree", "size", "[I", "ShapeTool"), ("ShapeTool$Finder", 114, "ShapeTool$Tree", "size", "[I", "ShapeTool"), ("ShapeTool$Putter", 93, "ShapeTool$Tree", "letter", "[I", "ShapeTool"), ("ShapeTool$Reader", 113, "ShapeTool$Tree", "letter", "[I", "ShapeTool"), ("ShapeTool$Finder", 127, "ShapeTool$Tree", "letter", "[I", "ShapeTool"), ("ShapeTool$Reader", 61, "ShapeTool$Tree", "firstOf", "[I", "ShapeTool"), ("ShapeTool$Finder", 55, "ShapeTool$Tree", "firstOf", "[I", "ShapeTool"), ("ShapeTool", 135, "ShapeTool$Tree", "same", "[I", "ShapeTool"), ("ShapeTool$Finder", 130, "ShapeTool$Tree", "same", "[I", "ShapeTool"), ("ShapeTool$Chooser", 38, "ShapeTool$Finder", "isMatched", "[Z", "ShapeTool"), ("ShapeTool$Putter", 37, "ShapeTool$Chooser", "chosen", "[I", "ShapeTool"), ("ShapeTool", 166, "ShapeTool$Chooser", "chosen", "[I", "ShapeTool"), ("ShapeTool$Putter", 32, "ShapeTool$Chooser", "many", "I", "ShapeTool"), ("ShapeTool", 163, "ShapeTool$Chooser", "many", "I", "ShapeTool"), ("ShapeTool", 202, "ShapeTool$Past", "kept", "I", "ShapeTool"), ("ShapeToolModel", 113, "ShapeToolModel$Tree", "bytes", "[B", "ShapeToolModel"), ("ShapeToolModel", 112, "ShapeToolModel$Tree", "length", "I", "ShapeToolModel"), ("ShapeToolModel", 122, "ShapeToolModel$Tree", "many", "I", "ShapeToolModel"), ("ShapeToolModel", 125, "ShapeToolModel$Tree", "kind", "[I", "ShapeToolModel"), ("ShapeToolModel", 128, "ShapeToolModel$Tree", "first", "[I", "ShapeToolModel"), ("ShapeToolModel", 154, "ShapeToolModel$Tree", "behind", "[I", "ShapeToolModel"), ("ShapeToolModel", 191, "ShapeToolModel$Tree", "atomEnd", "[I", "ShapeToolModel"), ("ShapeToolModel", 134, "ShapeToolModel$Tree", "terms", "[I", "ShapeToolModel"), ("ShapeToolModel", 131, "ShapeToolModel$Tree", "in", "[I", "ShapeToolModel"), ("ShapeToolModel", 140, "ShapeToolModel$Tree", "letter", "[I", "ShapeToolModel"), ("ShapeToolModel", 137, "ShapeToolModel$Tree", "open", "[Z", "ShapeToolModel")]
/-- and to private methods -/
def nM : List (String × Nat × MethodName × String) := [("ShapeTool", 15, ⟨"ShapeTool$Tree", "<init>", "()V"⟩, "ShapeTool"), ("ShapeTool", 31, ⟨"ShapeTool$Reader", "<init>", "()V"⟩, "ShapeTool"), ("ShapeTool", 65, ⟨"ShapeTool$Past", "<init>", "()V"⟩, "ShapeTool"), ("ShapeTool$Reader", 64, ⟨"ShapeTool", "isBlank", "(I)Z"⟩, "ShapeTool"), ("ShapeTool$Reader", 81, ⟨"ShapeTool", "isAtomByte", "(I)Z"⟩, "ShapeTool"), ("ShapeTool$Reader", 106, ⟨"ShapeTool", "isSmall", "(I)Z"⟩, "ShapeTool"), ("ShapeToolModel", 15, ⟨"ShapeToolModel$Tree", "<init>", "()V"⟩, "ShapeToolModel")]
set_option maxRecDepth 100000 in
theorem nF_in : nF.all (fun e => decide (Cond.fieldLinkNest e.1 e.2.1 e.2.2.1 e.2.2.2.1 e.2.2.2.2.1 e.2.2.2.2.2 ∈ lw_tbl)) = true := by decide +kernel
set_option maxRecDepth 100000 in
theorem nM_in : nM.all (fun e => decide (Cond.methodLinkNest e.1 e.2.1 e.2.2.1 e.2.2.2 ∈ lw_tbl)) = true := by decide +kernel
def FOk (own idx ci k : Nat) : Prop := ci < 9 ∧ k < cF ci ∧ (Cond.fieldLink (cN own) idx (cT ci k).1 (cT ci k).2.1 (cT ci k).2.2.1 ∈ lw_g ∨ ∃ host : String, (cN own, idx, (cT ci k).1, (cT ci k).2.1, (cT ci k).2.2.1, host) ∈ nF)
def COk (own idx : Nat) (q : MI) : Prop := Cond.methodLink (cN own) idx q.2.1 ∈ lw_g ∨ ∃ host : String, (cN own, idx, q.2.1, host) ∈ nM
def NOk (own idx ci : Nat) : Prop := ci < 9 ∧ Cond.classLink (cN own) idx (cN ci) ∈ lw_g ∧ Cond.instantiable (cN ci) (cF ci) ∈ lw_g ∧ Cond.initialized (cN ci) ∈ lw_g
set_option maxRecDepth 100000 in
theorem fO_5_9 : FOk 5 9 5 0 := ⟨by decide, by decide, Or.inl (mem_g 96 (by decide +kernel) (by decide +kernel))⟩
set_option maxRecDepth 100000 in
theorem fO_5_45 : FOk 5 45 5 1 := ⟨by decide, by decide, Or.inl (mem_g 101 (by decide +kernel) (by decide +kernel))⟩
set_option maxRecDepth 100000 in
theorem fO_5_53 : FOk 5 53 5 2 := ⟨by decide, by decide, Or.inl (mem_g 107 (by decide +kernel) (by decide +kernel))⟩
set_option maxRecDepth 100000 in
theorem fO_5_15 : FOk 5 15 5 3 := ⟨by decide, by decide, Or.inl (mem_g 112 (by decide +kernel) (by decide +kernel))⟩
set_option maxRecDepth 100000 in
theorem fO_5_18 : FOk 5 18 5 4 := ⟨by decide, by decide, Or.inl (mem_g 116 (by decide +kernel) (by decide +kernel))⟩
set_option maxRecDepth 100000 in
theorem fO_5_21 : FOk 5 21 5 5 := ⟨by decide, by decide, Or.inl (mem_g 120 (by decide +kernel) (by decide +kernel))⟩
set_option maxRecDepth 100000 in
theorem fO_5_24 : FOk 5 24 5 6 := ⟨by decide, by decide, Or.inl (mem_g 122 (by decide +kernel) (by decide +kernel))⟩
set_option maxRecDepth 100000 in
theorem fO_5_27 : FOk 5 27 5 7 := ⟨by decide, by decide, Or.inl (mem_g 126 (by decide +kernel) (by decide +kernel))⟩
set_option maxRecDepth 100000 in
theorem fO_5_30 : FOk 5 30 5 8 := ⟨by decide, by decide, Or.inl (mem_g 132 (by decide +kernel) (by decide +kernel))⟩
set_option maxRecDepth 100000 in
theorem fO_5_33 : FOk 5 33 5 9 := ⟨by decide, by decide, Or.inl (mem_g 136 (by decide +kernel) (by decide +kernel))⟩
set_option maxRecDepth 100000 in
theorem fO_5_36 : FOk 5 36 5 10 := ⟨by decide, by decide, Or.inl (mem_g 139 (by decide +kernel) (by decide +kernel))⟩
set_option maxRecDepth 100000 in
theorem fO_5_39 : FOk 5 39 5 11 := ⟨by decide, by decide, Or.inl (mem_g 143 (by decide +kernel) (by decide +kernel))⟩
set_option maxRecDepth 100000 in
theorem fO_5_42 : FOk 5 42 5 12 := ⟨by decide, by decide, Or.inl (mem_g 146 (by decide +kernel) (by decide +kernel))⟩
set_option maxRecDepth 100000 in
theorem fO_4_42 : FOk 4 42 4 0 := ⟨by decide, by decide, Or.inl (mem_g 183 (by decide +kernel) (by decide +kernel))⟩
set_option maxRecDepth 100000 in
theorem fO_4_25 : FOk 4 25 4 1 := ⟨by decide, by decide, Or.inl (mem_g 184 (by decide +kernel) (by decide +kernel))⟩
set_option maxRecDepth 100000 in
theorem fO_4_31 : FOk 4 31 4 2 := ⟨by decide, by decide, Or.inl (mem_g 185 (by decide +kernel) (by decide +kernel))⟩
set_option maxRecDepth 100000 in
theorem fO_4_28 : FOk 4 28 4 3 := ⟨by decide, by decide, Or.inl (mem_g 186 (by decide +kernel) (by decide +kernel))⟩
set_option maxRecDepth 100000 in
theorem fO_4_45 : FOk 4 45 4 4 := ⟨by decide, by decide, Or.inl (mem_g 187 (by decide +kernel) (by decide +kernel))⟩
set_option maxRecDepth 100000 in
theorem fO_4_48 : FOk 4 48 4 5 := ⟨by decide, by decide, Or.inl (mem_g 188 (by decide +kernel) (by decide +kernel))⟩
set_option maxRecDepth 100000 in
theorem fO_4_51 : FOk 4 51 4 6 := ⟨by decide, by decide, Or.inl (mem_g 189 (by decide +kernel) (by decide +kernel))⟩
set_option maxRecDepth 100000 in
theorem fO_4_54 : FOk 4 54 4 7 := ⟨by decide, by decide, Or.inl (mem_g 190 (by decide +kernel) (by decide +kernel))⟩
set_option maxRecDepth 100000 in
theorem fO_1_37 : FOk 1 37 1 0 := ⟨by decide, by decide, Or.inl (mem_g 214 (by decide +kernel) (by decide +kernel))⟩
set_option maxRecDepth 100000 in
theorem fO_1_41 : FOk 1 41 1 1 := ⟨by decide, by decide, Or.inl (mem_g 215 (by decide +kernel) (by decide +kernel))⟩
set_option maxRecDepth 100000 in
theorem fO_1_9 : FOk 1 9 1 2 := ⟨by decide, by decide, Or.inl (mem_g 216 (by decide +kernel) (by decide +kernel))⟩
set_option maxRecDepth 100000 in
theorem fO_1_15 : FOk 1 15 1 3 := ⟨by decide, by decide, Or.inl (mem_g 217 (by decide +kernel) (by decide +kernel))⟩
set_option maxRecDepth 100000 in
theorem fO_1_18 : FOk 1 18 1 4 := ⟨by decide, by decide, Or.inl (mem_g 218 (by decide +kernel) (by decide +kernel))⟩
set_option maxRecDepth 100000 in
theorem fO_1_21 : FOk 1 21 1 5 := ⟨by decide, by decide, Or.inl (mem_g 219 (by decide +kernel) (by decide +kernel))⟩
set_option maxRecDepth 100000 in
theorem fO_1_24 : FOk 1 24 1 6 := ⟨by decide, by decide, Or.inl (mem_g 220 (by decide +kernel) (by decide +kernel))⟩
set_option maxRecDepth 100000 in
theorem fO_1_67 : FOk 1 67 1 7 := ⟨by decide, by decide, Or.inl (mem_g 221 (by decide +kernel) (by decide +kernel))⟩
set_option maxRecDepth 100000 in
theorem fO_1_70 : FOk 1 70 1 8 := ⟨by decide, by decide, Or.inl (mem_g 222 (by decide +kernel) (by decide +kernel))⟩
set_option maxRecDepth 100000 in
theorem fO_1_92 : FOk 1 92 1 9 := ⟨by decide, by decide, Or.inl (mem_g 223 (by decide +kernel) (by decide +kernel))⟩
set_option maxRecDepth 100000 in
theorem fO_1_95 : FOk 1 95 1 10 := ⟨by decide, by decide, Or.inl (mem_g 224 (by decide +kernel) (by decide +kernel))⟩
set_option maxRecDepth 100000 in
theorem fO_1_27 : FOk 1 27 1 11 := ⟨by decide, by decide, Or.inl (mem_g 225 (by decide +kernel) (by decide +kernel))⟩
set_option maxRecDepth 100000 in
theorem fO_1_30 : FOk 1 30 1 12 := ⟨by decide, by decide, Or.inl (mem_g 226 (by decide +kernel) (by decide +kernel))⟩
set_option maxRecDepth 100000 in
theorem fO_1_51 : FOk 1 51 1 13 := ⟨by decide, by decide, Or.inl (mem_g 227 (by decide +kernel) (by decide +kernel))⟩
set_option maxRecDepth 100000 in
theorem fO_1_33 : FOk 1 33 1 14 := ⟨by decide, by decide, Or.inl (mem_g 228 (by decide +kernel) (by decide +kernel))⟩
set_option maxRecDepth 100000 in
theorem fO_1_44 : FOk 1 44 1 15 := ⟨by decide, by decide, Or.inl (mem_g 230 (by decide +kernel) (by decide +kernel))⟩
set_option maxRecDepth 100000 in
theorem fO_0_18 : FOk 0 18 0 0 := ⟨by decide, by decide, Or.inl (mem_g 271 (by decide +kernel) (by decide +kernel))⟩
set_option maxRecDepth 100000 in
theorem fO_0_22 : FOk 0 22 0 1 := ⟨by decide, by decide, Or.inl (mem_g 272 (by decide +kernel) (by decide +kernel))⟩
set_option maxRecDepth 100000 in
theorem fO_0_9 : FOk 0 9 0 2 := ⟨by decide, by decide, Or.inl (mem_g 273 (by decide +kernel) (by decide +kernel))⟩
set_option maxRecDepth 100000 in
theorem fO_0_29 : FOk 0 29 0 3 := ⟨by decide, by decide, Or.inl (mem_g 277 (by decide +kernel) (by decide +kernel))⟩
set_option maxRecDepth 100000 in
theorem fO_0_15 : FOk 0 15 0 4 := ⟨by decide, by decide, Or.inl (mem_g 279 (by decide +kernel) (by decide +kernel))⟩
set_option maxRecDepth 100000 in
theorem fO_3_15 : FOk 3 15 3 0 := ⟨by decide, by decide, Or.inl (mem_g 297 (by decide +kernel) (by decide +kernel))⟩
set_option maxRecDepth 100000 in
theorem fO_3_19 : FOk 3 19 3 1 := ⟨by decide, by decide, Or.inl (mem_g 298 (by decide +kernel) (by decide +kernel))⟩
set_option maxRecDepth 100000 in
theorem fO_3_22 : FOk 3 22 3 2 := ⟨by decide, by decide, Or.inl (mem_g 299 (by decide +kernel) (by decide +kernel))⟩
set_option maxRecDepth 100000 in
theorem fO_3_9 : FOk 3 9 3 3 := ⟨by decide, by decide, Or.inl (mem_g 300 (by decide +kernel) (by decide +kernel))⟩
set_option maxRecDepth 100000 in
theorem fO_2_13 : FOk 2 13 2 0 := ⟨by decide, by decide, Or.inl (mem_g 318 (by decide +kernel) (by decide +kernel))⟩
set_option maxRecDepth 100000 in
theorem fO_2_16 : FOk 2 16 2 1 := ⟨by decide, by decide, Or.inl (mem_g 319 (by decide +kernel) (by decide +kernel))⟩
set_option maxRecDepth 100000 in
theorem fO_2_25 : FOk 2 25 2 2 := ⟨by decide, by decide, Or.inl (mem_g 320 (by decide +kernel) (by decide +kernel))⟩
set_option maxRecDepth 100000 in
theorem fO_2_38 : FOk 2 38 2 3 := ⟨by decide, by decide, Or.inl (mem_g 321 (by decide +kernel) (by decide +kernel))⟩
set_option maxRecDepth 100000 in
theorem fO_6_9 : FOk 6 9 6 0 := ⟨by decide, by decide, Or.inl (mem_g 447 (by decide +kernel) (by decide +kernel))⟩
set_option maxRecDepth 100000 in
theorem fO_6_82 : FOk 6 82 6 1 := ⟨by decide, by decide, Or.inl (mem_g 448 (by decide +kernel) (by decide +kernel))⟩
set_option maxRecDepth 100000 in
theorem fO_6_16 : FOk 6 16 6 2 := ⟨by decide, by decide, Or.inl (mem_g 449 (by decide +kernel) (by decide +kernel))⟩
set_option maxRecDepth 100000 in
theorem fO_6_20 : FOk 6 20 6 3 := ⟨by decide, by decide, Or.inl (mem_g 450 (by decide +kernel) (by decide +kernel))⟩
set_option maxRecDepth 100000 in
theorem fO_6_23 : FOk 6 23 6 4 := ⟨by decide, by decide, Or.inl (mem_g 451 (by decide +kernel) (by decide +kernel))⟩
set_option maxRecDepth 100000 in
theorem fO_6_26 : FOk 6 26 6 5 := ⟨by decide, by decide, Or.inl (mem_g 452 (by decide +kernel) (by decide +kernel))⟩
set_option maxRecDepth 100000 in
theorem fO_6_32 : FOk 6 32 6 6 := ⟨by decide, by decide, Or.inl (mem_g 453 (by decide +kernel) (by decide +kernel))⟩
set_option maxRecDepth 100000 in
theorem fO_6_41 : FOk 6 41 6 7 := ⟨by decide, by decide, Or.inl (mem_g 454 (by decide +kernel) (by decide +kernel))⟩
set_option maxRecDepth 100000 in
theorem fO_6_50 : FOk 6 50 6 8 := ⟨by decide, by decide, Or.inl (mem_g 455 (by decide +kernel) (by decide +kernel))⟩
set_option maxRecDepth 100000 in
theorem fO_6_59 : FOk 6 59 6 9 := ⟨by decide, by decide, Or.inl (mem_g 456 (by decide +kernel) (by decide +kernel))⟩
set_option maxRecDepth 100000 in
theorem fO_6_66 : FOk 6 66 6 10 := ⟨by decide, by decide, Or.inl (mem_g 457 (by decide +kernel) (by decide +kernel))⟩
set_option maxRecDepth 100000 in
theorem fO_7_9 : FOk 7 9 7 0 := ⟨by decide, by decide, Or.inl (mem_g 819 (by decide +kernel) (by decide +kernel))⟩
set_option maxRecDepth 100000 in
theorem fO_7_15 : FOk 7 15 7 3 := ⟨by decide, by decide, Or.inl (mem_g 823 (by decide +kernel) (by decide +kernel))⟩
set_option maxRecDepth 100000 in
theorem fO_7_19 : FOk 7 19 7 4 := ⟨by decide, by decide, Or.inl (mem_g 825 (by decide +kernel) (by decide +kernel))⟩
set_option maxRecDepth 100000 in
theorem fO_7_22 : FOk 7 22 7 5 := ⟨by decide, by decide, Or.inl (mem_g 827 (by decide +kernel) (by decide +kernel))⟩
set_option maxRecDepth 100000 in
theorem fO_7_25 : FOk 7 25 7 6 := ⟨by decide, by decide, Or.inl (mem_g 829 (by decide +kernel) (by decide +kernel))⟩
set_option maxRecDepth 100000 in
theorem fO_7_28 : FOk 7 28 7 7 := ⟨by decide, by decide, Or.inl (mem_g 831 (by decide +kernel) (by decide +kernel))⟩
set_option maxRecDepth 100000 in
theorem fO_7_31 : FOk 7 31 7 8 := ⟨by decide, by decide, Or.inl (mem_g 833 (by decide +kernel) (by decide +kernel))⟩
set_option maxRecDepth 100000 in
theorem fO_7_34 : FOk 7 34 7 9 := ⟨by decide, by decide, Or.inl (mem_g 835 (by decide +kernel) (by decide +kernel))⟩
set_option maxRecDepth 100000 in
theorem fO_7_37 : FOk 7 37 7 10 := ⟨by decide, by decide, Or.inl (mem_g 837 (by decide +kernel) (by decide +kernel))⟩
set_option maxRecDepth 100000 in
theorem fO_8_103 : FOk 8 103 8 0 := ⟨by decide, by decide, Or.inl (mem_g 912 (by decide +kernel) (by decide +kernel))⟩
set_option maxRecDepth 100000 in
theorem fO_8_9 : FOk 8 9 8 1 := ⟨by decide, by decide, Or.inl (mem_g 913 (by decide +kernel) (by decide +kernel))⟩
set_option maxRecDepth 100000 in
theorem fO_8_95 : FOk 8 95 8 2 := ⟨by decide, by decide, Or.inl (mem_g 914 (by decide +kernel) (by decide +kernel))⟩
set_option maxRecDepth 100000 in
theorem fO_8_16 : FOk 8 16 8 3 := ⟨by decide, by decide, Or.inl (mem_g 915 (by decide +kernel) (by decide +kernel))⟩
set_option maxRecDepth 100000 in
theorem fO_8_20 : FOk 8 20 8 4 := ⟨by decide, by decide, Or.inl (mem_g 916 (by decide +kernel) (by decide +kernel))⟩
set_option maxRecDepth 100000 in
theorem fO_8_23 : FOk 8 23 8 5 := ⟨by decide, by decide, Or.inl (mem_g 917 (by decide +kernel) (by decide +kernel))⟩
set_option maxRecDepth 100000 in
theorem fO_8_26 : FOk 8 26 8 6 := ⟨by decide, by decide, Or.inl (mem_g 918 (by decide +kernel) (by decide +kernel))⟩
set_option maxRecDepth 100000 in
theorem fO_8_29 : FOk 8 29 8 7 := ⟨by decide, by decide, Or.inl (mem_g 919 (by decide +kernel) (by decide +kernel))⟩
set_option maxRecDepth 100000 in
theorem fO_8_32 : FOk 8 32 8 8 := ⟨by decide, by decide, Or.inl (mem_g 920 (by decide +kernel) (by decide +kernel))⟩
set_option maxRecDepth 100000 in
theorem fO_8_35 : FOk 8 35 8 9 := ⟨by decide, by decide, Or.inl (mem_g 921 (by decide +kernel) (by decide +kernel))⟩
set_option maxRecDepth 100000 in
theorem fO_8_212 : FOk 8 212 8 10 := ⟨by decide, by decide, Or.inl (mem_g 922 (by decide +kernel) (by decide +kernel))⟩
set_option maxRecDepth 100000 in
theorem fO_8_39 : FOk 8 39 8 11 := ⟨by decide, by decide, Or.inl (mem_g 923 (by decide +kernel) (by decide +kernel))⟩
set_option maxRecDepth 100000 in
theorem fO_8_109 : FOk 8 109 8 12 := ⟨by decide, by decide, Or.inl (mem_g 924 (by decide +kernel) (by decide +kernel))⟩
set_option maxRecDepth 100000 in
theorem fO_8_167 : FOk 8 167 8 13 := ⟨by decide, by decide, Or.inl (mem_g 925 (by decide +kernel) (by decide +kernel))⟩
set_option maxRecDepth 100000 in
theorem fO_8_106 : FOk 8 106 8 14 := ⟨by decide, by decide, Or.inl (mem_g 926 (by decide +kernel) (by decide +kernel))⟩
set_option maxRecDepth 100000 in
theorem fO_8_119 : FOk 8 119 8 15 := ⟨by decide, by decide, Or.inl (mem_g 927 (by decide +kernel) (by decide +kernel))⟩
set_option maxRecDepth 100000 in
theorem fO_8_143 : FOk 8 143 8 16 := ⟨by decide, by decide, Or.inl (mem_g 928 (by decide +kernel) (by decide +kernel))⟩
set_option maxRecDepth 100000 in
theorem fO_8_178 : FOk 8 178 8 17 := ⟨by decide, by decide, Or.inl (mem_g 929 (by decide +kernel) (by decide +kernel))⟩
set_option maxRecDepth 100000 in
theorem fO_8_181 : FOk 8 181 8 18 := ⟨by decide, by decide, Or.inl (mem_g 930 (by decide +kernel) (by decide +kernel))⟩
set_option maxRecDepth 100000 in
theorem fO_8_174 : FOk 8 174 8 19 := ⟨by decide, by decide, Or.inl (mem_g 931 (by decide +kernel) (by decide +kernel))⟩
set_option maxRecDepth 100000 in
theorem fO_8_43 : FOk 8 43 8 20 := ⟨by decide, by decide, Or.inl (mem_g 932 (by decide +kernel) (by decide +kernel))⟩
set_option maxRecDepth 100000 in
theorem fO_8_46 : FOk 8 46 8 21 := ⟨by decide, by decide, Or.inl (mem_g 933 (by decide +kernel) (by decide +kernel))⟩
set_option maxRecDepth 100000 in
theorem fO_8_49 : FOk 8 49 8 22 := ⟨by decide, by decide, Or.inl (mem_g 934 (by decide +kernel) (by decide +kernel))⟩
set_option maxRecDepth 100000 in
theorem fO_8_52 : FOk 8 52 8 23 := ⟨by decide, by decide, Or.inl (mem_g 935 (by decide +kernel) (by decide +kernel))⟩
set_option maxRecDepth 100000 in
theorem fO_8_55 : FOk 8 55 8 24 := ⟨by decide, by decide, Or.inl (mem_g 936 (by decide +kernel) (by decide +kernel))⟩
set_option maxRecDepth 100000 in
theorem fO_8_58 : FOk 8 58 8 25 := ⟨by decide, by decide, Or.inl (mem_g 937 (by decide +kernel) (by decide +kernel))⟩
set_option maxRecDepth 100000 in
theorem fO_8_227 : FOk 8 227 8 26 := ⟨by decide, by decide, Or.inl (mem_g 938 (by decide +kernel) (by decide +kernel))⟩
set_option maxRecDepth 100000 in
theorem fO_8_61 : FOk 8 61 8 27 := ⟨by decide, by decide, Or.inl (mem_g 939 (by decide +kernel) (by decide +kernel))⟩
set_option maxRecDepth 100000 in
theorem fO_8_64 : FOk 8 64 8 28 := ⟨by decide, by decide, Or.inl (mem_g 940 (by decide +kernel) (by decide +kernel))⟩
set_option maxRecDepth 100000 in
theorem fO_8_67 : FOk 8 67 8 29 := ⟨by decide, by decide, Or.inl (mem_g 941 (by decide +kernel) (by decide +kernel))⟩
set_option maxRecDepth 100000 in
theorem fO_8_70 : FOk 8 70 8 30 := ⟨by decide, by decide, Or.inl (mem_g 942 (by decide +kernel) (by decide +kernel))⟩
set_option maxRecDepth 100000 in
theorem fO_8_73 : FOk 8 73 8 31 := ⟨by decide, by decide, Or.inl (mem_g 943 (by decide +kernel) (by decide +kernel))⟩
set_option maxRecDepth 100000 in
theorem fO_8_76 : FOk 8 76 8 32 := ⟨by decide, by decide, Or.inl (mem_g 944 (by decide +kernel) (by decide +kernel))⟩
set_option maxRecDepth 100000 in
theorem fO_8_79 : FOk 8 79 8 33 := ⟨by decide, by decide, Or.inl (mem_g 945 (by decide +kernel) (by decide +kernel))⟩
set_option maxRecDepth 100000 in
theorem fO_8_82 : FOk 8 82 8 34 := ⟨by decide, by decide, Or.inl (mem_g 946 (by decide +kernel) (by decide +kernel))⟩
set_option maxRecDepth 100000 in
theorem fO_8_86 : FOk 8 86 8 35 := ⟨by decide, by decide, Or.inl (mem_g 947 (by decide +kernel) (by decide +kernel))⟩
set_option maxRecDepth 100000 in
theorem fO_8_266 : FOk 8 266 8 36 := ⟨by decide, by decide, Or.inl (mem_g 948 (by decide +kernel) (by decide +kernel))⟩
set_option maxRecDepth 100000 in
theorem fO_8_89 : FOk 8 89 8 37 := ⟨by decide, by decide, Or.inl (mem_g 949 (by decide +kernel) (by decide +kernel))⟩
set_option maxRecDepth 100000 in
theorem fO_8_92 : FOk 8 92 8 38 := ⟨by decide, by decide, Or.inl (mem_g 950 (by decide +kernel) (by decide +kernel))⟩
set_option maxRecDepth 100000 in
theorem fO_2_20 : FOk 2 20 5 0 := ⟨by decide, by decide, Or.inr ⟨"ShapeTool", List.mem_of_getElem? (i := 0) rfl⟩⟩
set_option maxRecDepth 100000 in
theorem fO_3_41 : FOk 3 41 5 0 := ⟨by decide, by decide, Or.inr ⟨"ShapeTool", List.mem_of_getElem? (i := 1) rfl⟩⟩
set_option maxRecDepth 100000 in
theorem fO_4_34 : FOk 4 34 5 0 := ⟨by decide, by decide, Or.inr ⟨"ShapeTool", List.mem_of_getElem? (i := 2) rfl⟩⟩
set_option maxRecDepth 100000 in
theorem fO_6_199 : FOk 6 199 5 0 := ⟨by decide, by decide, Or.inr ⟨"ShapeTool", List.mem_of_getElem? (i := 3) rfl⟩⟩
set_option maxRecDepth 100000 in
theorem fO_3_26 : FOk 3 26 5 1 := ⟨by decide, by decide, Or.inr ⟨"ShapeTool", List.mem_of_getElem? (i := 4) rfl⟩⟩
set_option maxRecDepth 100000 in
theorem fO_4_15 : FOk 4 15 5 1 := ⟨by decide, by decide, Or.inr ⟨"ShapeTool", List.mem_of_getElem? (i := 5) rfl⟩⟩
set_option maxRecDepth 100000 in
theorem fO_2_29 : FOk 2 29 5 1 := ⟨by decide, by decide, Or.inr ⟨"ShapeTool", List.mem_of_getElem? (i := 6) rfl⟩⟩
set_option maxRecDepth 100000 in
theorem fO_6_189 : FOk 6 189 5 1 := ⟨by decide, by decide, Or.inr ⟨"ShapeTool", List.mem_of_getElem? (i := 7) rfl⟩⟩
set_option maxRecDepth 100000 in
theorem fO_0_33 : FOk 0 33 5 2 := ⟨by decide, by decide, Or.inr ⟨"ShapeTool", List.mem_of_getElem? (i := 8) rfl⟩⟩
set_option maxRecDepth 100000 in
theorem fO_4_58 : FOk 4 58 5 2 := ⟨by decide, by decide, Or.inr ⟨"ShapeTool", List.mem_of_getElem? (i := 9) rfl⟩⟩
set_option maxRecDepth 100000 in
theorem fO_3_87 : FOk 3 87 5 2 := ⟨by decide, by decide, Or.inr ⟨"ShapeTool", List.mem_of_getElem? (i := 10) rfl⟩⟩
set_option maxRecDepth 100000 in
theorem fO_6_112 : FOk 6 112 5 2 := ⟨by decide, by decide, Or.inr ⟨"ShapeTool", List.mem_of_getElem? (i := 11) rfl⟩⟩
set_option maxRecDepth 100000 in
theorem fO_1_60 : FOk 1 60 5 2 := ⟨by decide, by decide, Or.inr ⟨"ShapeTool", List.mem_of_getElem? (i := 12) rfl⟩⟩
set_option maxRecDepth 100000 in
theorem fO_3_90 : FOk 3 90 5 3 := ⟨by decide, by decide, Or.inr ⟨"ShapeTool", List.mem_of_getElem? (i := 13) rfl⟩⟩
set_option maxRecDepth 100000 in
theorem fO_4_99 : FOk 4 99 5 3 := ⟨by decide, by decide, Or.inr ⟨"ShapeTool", List.mem_of_getElem? (i := 14) rfl⟩⟩
set_option maxRecDepth 100000 in
theorem fO_1_77 : FOk 1 77 5 3 := ⟨by decide, by decide, Or.inr ⟨"ShapeTool", List.mem_of_getElem? (i := 15) rfl⟩⟩
set_option maxRecDepth 100000 in
theorem fO_3_44 : FOk 3 44 5 4 := ⟨by decide, by decide, Or.inr ⟨"ShapeTool", List.mem_of_getElem? (i := 16) rfl⟩⟩
set_option maxRecDepth 100000 in
theorem fO_6_118 : FOk 6 118 5 4 := ⟨by decide, by decide, Or.inr ⟨"ShapeTool", List.mem_of_getElem? (i := 17) rfl⟩⟩
set_option maxRecDepth 100000 in
theorem fO_4_116 : FOk 4 116 5 4 := ⟨by decide, by decide, Or.inr ⟨"ShapeTool", List.mem_of_getElem? (i := 18) rfl⟩⟩
set_option maxRecDepth 100000 in
theorem fO_4_119 : FOk 4 119 5 5 := ⟨by decide, by decide, Or.inr ⟨"ShapeTool", List.mem_of_getElem? (i := 19) rfl⟩⟩
set_option maxRecDepth 100000 in
theorem fO_3_61 : FOk 3 61 5 6 := ⟨by decide, by decide, Or.inr ⟨"ShapeTool", List.mem_of_getElem? (i := 20) rfl⟩⟩
set_option maxRecDepth 100000 in
theorem fO_6_121 : FOk 6 121 5 6 := ⟨by decide, by decide, Or.inr ⟨"ShapeTool", List.mem_of_getElem? (i := 21) rfl⟩⟩
set_option maxRecDepth 100000 in
theorem fO_4_122 : FOk 4 122 5 6 := ⟨by decide, by decide, Or.inr ⟨"ShapeTool", List.mem_of_getElem? (i := 22) rfl⟩⟩
set_option maxRecDepth 100000 in
theorem fO_0_48 : FOk 0 48 5 7 := ⟨by decide, by decide, Or.inr ⟨"ShapeTool", List.mem_of_getElem? (i := 23) rfl⟩⟩
set_option maxRecDepth 100000 in
theorem fO_3_100 : FOk 3 100 5 7 := ⟨by decide, by decide, Or.inr ⟨"ShapeTool", List.mem_of_getElem? (i := 24) rfl⟩⟩
set_option maxRecDepth 100000 in
theorem fO_6_132 : FOk 6 132 5 7 := ⟨by decide, by decide, Or.inr ⟨"ShapeTool", List.mem_of_getElem? (i := 25) rfl⟩⟩
set_option maxRecDepth 100000 in
theorem fO_1_80 : FOk 1 80 5 7 := ⟨by decide, by decide, Or.inr ⟨"ShapeTool", List.mem_of_getElem? (i := 26) rfl⟩⟩
set_option maxRecDepth 100000 in
theorem fO_4_125 : FOk 4 125 5 7 := ⟨by decide, by decide, Or.inr ⟨"ShapeTool", List.mem_of_getElem? (i := 27) rfl⟩⟩
set_option maxRecDepth 100000 in
theorem fO_6_124 : FOk 6 124 5 8 := ⟨by decide, by decide, Or.inr ⟨"ShapeTool", List.mem_of_getElem? (i := 28) rfl⟩⟩
set_option maxRecDepth 100000 in
theorem fO_4_128 : FOk 4 128 5 8 := ⟨by decide, by decide, Or.inr ⟨"ShapeTool", List.mem_of_getElem? (i := 29) rfl⟩⟩
set_option maxRecDepth 100000 in
theorem fO_1_120 : FOk 1 120 5 8 := ⟨by decide, by decide, Or.inr ⟨"ShapeTool", List.mem_of_getElem? (i := 30) rfl⟩⟩
set_option maxRecDepth 100000 in
theorem fO_4_131 : FOk 4 131 5 9 := ⟨by decide, by decide, Or.inr ⟨"ShapeTool", List.mem_of_getElem? (i := 31) rfl⟩⟩
set_option maxRecDepth 100000 in
theorem fO_1_114 : FOk 1 114 5 9 := ⟨by decide, by decide, Or.inr ⟨"ShapeTool", List.mem_of_getElem? (i := 32) rfl⟩⟩
set_option maxRecDepth 100000 in
theorem fO_3_93 : FOk 3 93 5 10 := ⟨by decide, by decide, Or.inr ⟨"ShapeTool", List.mem_of_getElem? (i := 33) rfl⟩⟩
set_option maxRecDepth 100000 in
theorem fO_4_113 : FOk 4 113 5 10 := ⟨by decide, by decide, Or.inr ⟨"ShapeTool", List.mem_of_getElem? (i := 34) rfl⟩⟩
set_option maxRecDepth 100000 in
theorem fO_1_127 : FOk 1 127 5 10 := ⟨by decide, by decide, Or.inr ⟨"ShapeTool", List.mem_of_getElem? (i := 35) rfl⟩⟩
set_option maxRecDepth 100000 in
theorem fO_4_61 : FOk 4 61 5 11 := ⟨by decide, by decide, Or.inr ⟨"ShapeTool", List.mem_of_getElem? (i := 36) rfl⟩⟩
set_option maxRecDepth 100000 in
theorem fO_1_55 : FOk 1 55 5 11 := ⟨by decide, by decide, Or.inr ⟨"ShapeTool", List.mem_of_getElem? (i := 37) rfl⟩⟩
set_option maxRecDepth 100000 in
theorem fO_6_135 : FOk 6 135 5 12 := ⟨by decide, by decide, Or.inr ⟨"ShapeTool", List.mem_of_getElem? (i := 38) rfl⟩⟩
set_option maxRecDepth 100000 in
theorem fO_1_130 : FOk 1 130 5 12 := ⟨by decide, by decide, Or.inr ⟨"ShapeTool", List.mem_of_getElem? (i := 39) rfl⟩⟩
set_option maxRecDepth 100000 in
theorem fO_0_38 : FOk 0 38 1 14 := ⟨by decide, by decide, Or.inr ⟨"ShapeTool", List.mem_of_getElem? (i := 40) rfl⟩⟩
set_option maxRecDepth 100000 in
theorem fO_3_37 : FOk 3 37 0 2 := ⟨by decide, by decide, Or.inr ⟨"ShapeTool", List.mem_of_getElem? (i := 41) rfl⟩⟩
set_option maxRecDepth 100000 in
theorem fO_6_166 : FOk 6 166 0 2 := ⟨by decide, by decide, Or.inr ⟨"ShapeTool", List.mem_of_getElem? (i := 42) rfl⟩⟩
set_option maxRecDepth 100000 in
theorem fO_3_32 : FOk 3 32 0 3 := ⟨by decide, by decide, Or.inr ⟨"ShapeTool", List.mem_of_getElem? (i := 43) rfl⟩⟩
set_option maxRecDepth 100000 in
theorem fO_6_163 : FOk 6 163 0 3 := ⟨by decide, by decide, Or.inr ⟨"ShapeTool", List.mem_of_getElem? (i := 44) rfl⟩⟩
set_option maxRecDepth 100000 in
theorem fO_6_202 : FOk 6 202 2 3 := ⟨by decide, by decide, Or.inr ⟨"ShapeTool", List.mem_of_getElem? (i := 45) rfl⟩⟩
set_option maxRecDepth 100000 in
theorem fO_8_113 : FOk 8 113 7 0 := ⟨by decide, by decide, Or.inr ⟨"ShapeToolModel", List.mem_of_getElem? (i := 46) rfl⟩⟩
set_option maxRecDepth 100000 in
theorem fO_8_112 : FOk 8 112 7 1 := ⟨by decide, by decide, Or.inr ⟨"ShapeToolModel", List.mem_of_getElem? (i := 47) rfl⟩⟩
set_option maxRecDepth 100000 in
theorem fO_8_122 : FOk 8 122 7 2 := ⟨by decide, by decide, Or.inr ⟨"ShapeToolModel", List.mem_of_getElem? (i := 48) rfl⟩⟩
set_option maxRecDepth 100000 in
theorem fO_8_125 : FOk 8 125 7 3 := ⟨by decide, by decide, Or.inr ⟨"ShapeToolModel", List.mem_of_getElem? (i := 49) rfl⟩⟩
set_option maxRecDepth 100000 in
theorem fO_8_128 : FOk 8 128 7 4 := ⟨by decide, by decide, Or.inr ⟨"ShapeToolModel", List.mem_of_getElem? (i := 50) rfl⟩⟩
set_option maxRecDepth 100000 in
theorem fO_8_154 : FOk 8 154 7 5 := ⟨by decide, by decide, Or.inr ⟨"ShapeToolModel", List.mem_of_getElem? (i := 51) rfl⟩⟩
set_option maxRecDepth 100000 in
theorem fO_8_191 : FOk 8 191 7 6 := ⟨by decide, by decide, Or.inr ⟨"ShapeToolModel", List.mem_of_getElem? (i := 52) rfl⟩⟩
set_option maxRecDepth 100000 in
theorem fO_8_134 : FOk 8 134 7 7 := ⟨by decide, by decide, Or.inr ⟨"ShapeToolModel", List.mem_of_getElem? (i := 53) rfl⟩⟩
set_option maxRecDepth 100000 in
theorem fO_8_131 : FOk 8 131 7 8 := ⟨by decide, by decide, Or.inr ⟨"ShapeToolModel", List.mem_of_getElem? (i := 54) rfl⟩⟩
set_option maxRecDepth 100000 in
theorem fO_8_140 : FOk 8 140 7 9 := ⟨by decide, by decide, Or.inr ⟨"ShapeToolModel", List.mem_of_getElem? (i := 55) rfl⟩⟩
set_option maxRecDepth 100000 in
theorem fO_8_137 : FOk 8 137 7 10 := ⟨by decide, by decide, Or.inr ⟨"ShapeToolModel", List.mem_of_getElem? (i := 56) rfl⟩⟩
abbrev mX0_init : MI := (0, yX0_init, cX0_init, 3, none, 2, 2)
set_option maxRecDepth 100000 in
theorem oX0_init : MOk mX0_init := ⟨mem_g 269 (by decide +kernel) (by decide +kernel), fun h => absurd h (by decide), fun _ => mem_g 268 (by decide +kernel) (by decide +kernel), fun h => absurd h (by decide), mem_g 71 (by decide +kernel) (by decide +kernel), rfl, ⟨by decide +kernel, by decide +kernel⟩, by decide +kernel, by decide +kernel, by decide, by decide, fun _ => ⟨rfl, rfl⟩⟩
abbrev mX0_choose : MI := (0, yX0_choose, cX0_choose, 5, none, 1, 0)
set_option maxRecDepth 100000 in
theorem oX0_choose : MOk mX0_choose := ⟨mem_g 639 (by decide +kernel) (by decide +kernel), fun h => absurd h (by decide), fun _ => mem_g 637 (by decide +kernel) (by decide +kernel), fun _ => mem_g 638 (by decide +kernel) (by decide +kernel), mem_g 71 (by decide +kernel) (by decide +kernel), rfl, ⟨by decide +kernel, by decide +kernel⟩, by decide +kernel, by decide +kernel, by decide, by decide, fun h => absurd h (by decide)⟩
abbrev mX0_countWithin : MI := (0, yX0_countWithin, cX0_countWithin, 3, none, 0, 0)
set_option maxRecDepth 100000 in
theorem oX0_countWithin : MOk mX0_countWithin := ⟨mem_g 643 (by decide +kernel) (by decide +kernel), fun h => absurd h (by decide), fun _ => mem_g 642 (by decide +kernel) (by decide +kernel), fun _ => mem_g 27 (by decide +kernel) (by decide +kernel), mem_g 71 (by decide +kernel) (by decide +kernel), rfl, ⟨by decide +kernel, by decide +kernel⟩, by decide +kernel, by decide +kernel, by decide, by decide, fun h => absurd h (by decide)⟩
abbrev mX1_init : MI := (1, yX1_init, cX1_init, 3, none, 2, 2)
set_option maxRecDepth 100000 in
theorem oX1_init : MOk mX1_init := ⟨mem_g 212 (by decide +kernel) (by decide +kernel), fun h => absurd h (by decide), fun _ => mem_g 211 (by decide +kernel) (by decide +kernel), fun h => absurd h (by decide), mem_g 70 (by decide +kernel) (by decide +kernel), rfl, ⟨by decide +kernel, by decide +kernel⟩, by decide +kernel, by decide +kernel, by decide, by decide, fun _ => ⟨rfl, rfl⟩⟩
abbrev mX1_forgetMatched : MI := (1, yX1_forgetMatched, cX1_forgetMatched, 1, none, 0, 0)
set_option maxRecDepth 100000 in
theorem oX1_forgetMatched : MOk mX1_forgetMatched := ⟨mem_g 446 (by decide +kernel) (by decide +kernel), fun h => absurd h (by decide), fun _ => mem_g 444 (by decide +kernel) (by decide +kernel), fun _ => mem_g 445 (by decide +kernel) (by decide +kernel), mem_g 70 (by decide +kernel) (by decide +kernel), rfl, ⟨by decide +kernel, by decide +kernel⟩, by decide +kernel, by decide +kernel, by decide, by decide, fun h => absurd h (by decide)⟩
abbrev mX1_forgetDifferences : MI := (1, yX1_forgetDifferences, cX1_forgetDifferences, 2, none, 0, 0)
set_option maxRecDepth 100000 in
theorem oX1_forgetDifferences : MOk mX1_forgetDifferences := ⟨mem_g 512 (by decide +kernel) (by decide +kernel), fun h => absurd h (by decide), fun _ => mem_g 510 (by decide +kernel) (by decide +kernel), fun _ => mem_g 511 (by decide +kernel) (by decide +kernel), mem_g 70 (by decide +kernel) (by decide +kernel), rfl, ⟨by decide +kernel, by decide +kernel⟩, by decide +kernel, by decide +kernel, by decide, by decide, fun h => absurd h (by decide)⟩
abbrev mX1_mustDiffer : MI := (1, yX1_mustDiffer, cX1_mustDiffer, 3, (some .boolean), 2, 0)
set_option maxRecDepth 100000 in
theorem oX1_mustDiffer : MOk mX1_mustDiffer := ⟨mem_g 523 (by decide +kernel) (by decide +kernel), fun h => absurd h (by decide), fun _ => mem_g 521 (by decide +kernel) (by decide +kernel), fun _ => mem_g 522 (by decide +kernel) (by decide +kernel), mem_g 70 (by decide +kernel) (by decide +kernel), rfl, ⟨by decide +kernel, by decide +kernel⟩, by decide +kernel, by decide +kernel, by decide, by decide, fun h => absurd h (by decide)⟩
abbrev mX1_setDiffer : MI := (1, yX1_setDiffer, cX1_setDiffer, 6, none, 3, 0)
set_option maxRecDepth 100000 in
theorem oX1_setDiffer : MOk mX1_setDiffer := ⟨mem_g 527 (by decide +kernel) (by decide +kernel), fun h => absurd h (by decide), fun _ => mem_g 525 (by decide +kernel) (by decide +kernel), fun _ => mem_g 526 (by decide +kernel) (by decide +kernel), mem_g 70 (by decide +kernel) (by decide +kernel), rfl, ⟨by decide +kernel, by decide +kernel⟩, by decide +kernel, by decide +kernel, by decide, by decide, fun h => absurd h (by decide)⟩
abbrev mX1_countMatched : MI := (1, yX1_countMatched, cX1_countMatched, 1, (some .int), 0, 0)
set_option maxRecDepth 100000 in
theorem oX1_countMatched : MOk mX1_countMatched := ⟨mem_g 554 (by decide +kernel) (by decide +kernel), fun h => absurd h (by decide), fun _ => mem_g 552 (by decide +kernel) (by decide +kernel), fun _ => mem_g 553 (by decide +kernel) (by decide +kernel), mem_g 70 (by decide +kernel) (by decide +kernel), rfl, ⟨by decide +kernel, by decide +kernel⟩, by decide +kernel, by decide +kernel, by decide, by decide, fun h => absurd h (by decide)⟩
abbrev mX1_matchedAt : MI := (1, yX1_matchedAt, cX1_matchedAt, 2, (some .int), 1, 0)
set_option maxRecDepth 100000 in
theorem oX1_matchedAt : MOk mX1_matchedAt := ⟨mem_g 605 (by decide +kernel) (by decide +kernel), fun h => absurd h (by decide), fun _ => mem_g 603 (by decide +kernel) (by decide +kernel), fun _ => mem_g 604 (by decide +kernel) (by decide +kernel), mem_g 70 (by decide +kernel) (by decide +kernel), rfl, ⟨by decide +kernel, by decide +kernel⟩, by decide +kernel, by decide +kernel, by decide, by decide, fun h => absurd h (by decide)⟩
abbrev mX1_firstNode : MI := (1, yX1_firstNode, cX1_firstNode, 3, (some .int), 1, 0)
set_option maxRecDepth 100000 in
theorem oX1_firstNode : MOk mX1_firstNode := ⟨mem_g 619 (by decide +kernel) (by decide +kernel), fun h => absurd h (by decide), fun _ => mem_g 617 (by decide +kernel) (by decide +kernel), fun _ => mem_g 618 (by decide +kernel) (by decide +kernel), mem_g 70 (by decide +kernel) (by decide +kernel), rfl, ⟨by decide +kernel, by decide +kernel⟩, by decide +kernel, by decide +kernel, by decide, by decide, fun h => absurd h (by decide)⟩
abbrev mX1_howMany : MI := (1, yX1_howMany, cX1_howMany, 3, (some .int), 1, 0)
set_option maxRecDepth 100000 in
theorem oX1_howMany : MOk mX1_howMany := ⟨mem_g 627 (by decide +kernel) (by decide +kernel), fun h => absurd h (by decide), fun _ => mem_g 625 (by decide +kernel) (by decide +kernel), fun _ => mem_g 626 (by decide +kernel) (by decide +kernel), mem_g 70 (by decide +kernel) (by decide +kernel), rfl, ⟨by decide +kernel, by decide +kernel⟩, by decide +kernel, by decide +kernel, by decide, by decide, fun h => absurd h (by decide)⟩
abbrev mX1_findAll : MI := (1, yX1_findAll, cX1_findAll, 2, none, 0, 0)
set_option maxRecDepth 100000 in
theorem oX1_findAll : MOk mX1_findAll := ⟨mem_g 558 (by decide +kernel) (by decide +kernel), fun h => absurd h (by decide), fun _ => mem_g 556 (by decide +kernel) (by decide +kernel), fun _ => mem_g 557 (by decide +kernel) (by decide +kernel), mem_g 70 (by decide +kernel) (by decide +kernel), rfl, ⟨by decide +kernel, by decide +kernel⟩, by decide +kernel, by decide +kernel, by decide, by decide, fun h => absurd h (by decide)⟩
abbrev mX1_preparePattern : MI := (1, yX1_preparePattern, cX1_preparePattern, 3, none, 0, 0)
set_option maxRecDepth 100000 in
theorem oX1_preparePattern : MOk mX1_preparePattern := ⟨mem_g 438 (by decide +kernel) (by decide +kernel), fun h => absurd h (by decide), fun _ => mem_g 436 (by decide +kernel) (by decide +kernel), fun _ => mem_g 437 (by decide +kernel) (by decide +kernel), mem_g 70 (by decide +kernel) (by decide +kernel), rfl, ⟨by decide +kernel, by decide +kernel⟩, by decide +kernel, by decide +kernel, by decide, by decide, fun h => absurd h (by decide)⟩
abbrev mX1_countSingles : MI := (1, yX1_countSingles, cX1_countSingles, 5, (some .int), 1, 0)
set_option maxRecDepth 100000 in
theorem oX1_countSingles : MOk mX1_countSingles := ⟨mem_g 442 (by decide +kernel) (by decide +kernel), fun h => absurd h (by decide), fun _ => mem_g 441 (by decide +kernel) (by decide +kernel), fun _ => mem_g 15 (by decide +kernel) (by decide +kernel), mem_g 70 (by decide +kernel) (by decide +kernel), rfl, ⟨by decide +kernel, by decide +kernel⟩, by decide +kernel, by decide +kernel, by decide, by decide, fun h => absurd h (by decide)⟩
abbrev mX1_findWay : MI := (1, yX1_findWay, cX1_findWay, 10, (some .boolean), 1, 0)
set_option maxRecDepth 100000 in
theorem oX1_findWay : MOk mX1_findWay := ⟨mem_g 562 (by decide +kernel) (by decide +kernel), fun h => absurd h (by decide), fun _ => mem_g 560 (by decide +kernel) (by decide +kernel), fun _ => mem_g 561 (by decide +kernel) (by decide +kernel), mem_g 70 (by decide +kernel) (by decide +kernel), rfl, ⟨by decide +kernel, by decide +kernel⟩, by decide +kernel, by decide +kernel, by decide, by decide, fun h => absurd h (by decide)⟩
abbrev mX1_firstFailing : MI := (1, yX1_firstFailing, cX1_firstFailing, 4, (some .int), 1, 0)
set_option maxRecDepth 100000 in
theorem oX1_firstFailing : MOk mX1_firstFailing := ⟨mem_g 570 (by decide +kernel) (by decide +kernel), fun h => absurd h (by decide), fun _ => mem_g 569 (by decide +kernel) (by decide +kernel), fun _ => mem_g 19 (by decide +kernel) (by decide +kernel), mem_g 70 (by decide +kernel) (by decide +kernel), rfl, ⟨by decide +kernel, by decide +kernel⟩, by decide +kernel, by decide +kernel, by decide, by decide, fun h => absurd h (by decide)⟩
abbrev mX1_seatPiece : MI := (1, yX1_seatPiece, cX1_seatPiece, 4, (some .boolean), 2, 0)
set_option maxRecDepth 100000 in
theorem oX1_seatPiece : MOk mX1_seatPiece := ⟨mem_g 583 (by decide +kernel) (by decide +kernel), fun h => absurd h (by decide), fun _ => mem_g 582 (by decide +kernel) (by decide +kernel), fun _ => mem_g 22 (by decide +kernel) (by decide +kernel), mem_g 70 (by decide +kernel) (by decide +kernel), rfl, ⟨by decide +kernel, by decide +kernel⟩, by decide +kernel, by decide +kernel, by decide, by decide, fun h => absurd h (by decide)⟩
abbrev mX1_nextNode : MI := (1, yX1_nextNode, cX1_nextNode, 3, (some .int), 1, 0)
set_option maxRecDepth 100000 in
theorem oX1_nextNode : MOk mX1_nextNode := ⟨mem_g 587 (by decide +kernel) (by decide +kernel), fun h => absurd h (by decide), fun _ => mem_g 586 (by decide +kernel) (by decide +kernel), fun _ => mem_g 23 (by decide +kernel) (by decide +kernel), mem_g 70 (by decide +kernel) (by decide +kernel), rfl, ⟨by decide +kernel, by decide +kernel⟩, by decide +kernel, by decide +kernel, by decide, by decide, fun h => absurd h (by decide)⟩
abbrev mX1_termFits : MI := (1, yX1_termFits, cX1_termFits, 6, (some .boolean), 2, 0)
set_option maxRecDepth 100000 in
theorem oX1_termFits : MOk mX1_termFits := ⟨mem_g 591 (by decide +kernel) (by decide +kernel), fun h => absurd h (by decide), fun _ => mem_g 590 (by decide +kernel) (by decide +kernel), fun _ => mem_g 24 (by decide +kernel) (by decide +kernel), mem_g 70 (by decide +kernel) (by decide +kernel), rfl, ⟨by decide +kernel, by decide +kernel⟩, by decide +kernel, by decide +kernel, by decide, by decide, fun h => absurd h (by decide)⟩
abbrev mX1_holeFits : MI := (1, yX1_holeFits, cX1_holeFits, 7, (some .boolean), 2, 0)
set_option maxRecDepth 100000 in
theorem oX1_holeFits : MOk mX1_holeFits := ⟨mem_g 596 (by decide +kernel) (by decide +kernel), fun h => absurd h (by decide), fun _ => mem_g 595 (by decide +kernel) (by decide +kernel), fun _ => mem_g 25 (by decide +kernel) (by decide +kernel), mem_g 70 (by decide +kernel) (by decide +kernel), rfl, ⟨by decide +kernel, by decide +kernel⟩, by decide +kernel, by decide +kernel, by decide, by decide, fun h => absurd h (by decide)⟩
abbrev mX1_rowFits : MI := (1, yX1_rowFits, cX1_rowFits, 6, (some .boolean), 1, 0)
set_option maxRecDepth 100000 in
theorem oX1_rowFits : MOk mX1_rowFits := ⟨mem_g 574 (by decide +kernel) (by decide +kernel), fun h => absurd h (by decide), fun _ => mem_g 573 (by decide +kernel) (by decide +kernel), fun _ => mem_g 20 (by decide +kernel) (by decide +kernel), mem_g 70 (by decide +kernel) (by decide +kernel), rfl, ⟨by decide +kernel, by decide +kernel⟩, by decide +kernel, by decide +kernel, by decide, by decide, fun h => absurd h (by decide)⟩
abbrev mX1_rowsAlike : MI := (1, yX1_rowsAlike, cX1_rowsAlike, 6, (some .boolean), 2, 0)
set_option maxRecDepth 100000 in
theorem oX1_rowsAlike : MOk mX1_rowsAlike := ⟨mem_g 579 (by decide +kernel) (by decide +kernel), fun h => absurd h (by decide), fun _ => mem_g 578 (by decide +kernel) (by decide +kernel), fun _ => mem_g 21 (by decide +kernel) (by decide +kernel), mem_g 70 (by decide +kernel) (by decide +kernel), rfl, ⟨by decide +kernel, by decide +kernel⟩, by decide +kernel, by decide +kernel, by decide, by decide, fun h => absurd h (by decide)⟩
abbrev mX2_init : MI := (2, yX2_init, cX2_init, 1, none, 0, 2)
set_option maxRecDepth 100000 in
theorem oX2_init : MOk mX2_init := ⟨mem_g 314 (by decide +kernel) (by decide +kernel), fun h => absurd h (by decide), fun _ => mem_g 313 (by decide +kernel) (by decide +kernel), fun h => absurd h (by decide), mem_g 73 (by decide +kernel) (by decide +kernel), rfl, ⟨by decide +kernel, by decide +kernel⟩, by decide +kernel, by decide +kernel, by decide, by decide, fun _ => ⟨rfl, rfl⟩⟩
abbrev mX2_write : MI := (2, yX2_write, cX2_write, 2, none, 1, 0)
set_option maxRecDepth 100000 in
theorem oX2_write : MOk mX2_write := ⟨mem_g 660 (by decide +kernel) (by decide +kernel), fun h => absurd h (by decide), fun _ => mem_g 658 (by decide +kernel) (by decide +kernel), fun _ => mem_g 659 (by decide +kernel) (by decide +kernel), mem_g 73 (by decide +kernel) (by decide +kernel), rfl, ⟨by decide +kernel, by decide +kernel⟩, by decide +kernel, by decide +kernel, by decide, by decide, fun h => absurd h (by decide)⟩
abbrev mX2_keepWritten : MI := (2, yX2_keepWritten, cX2_keepWritten, 1, none, 0, 0)
set_option maxRecDepth 100000 in
theorem oX2_keepWritten : MOk mX2_keepWritten := ⟨mem_g 706 (by decide +kernel) (by decide +kernel), fun h => absurd h (by decide), fun _ => mem_g 704 (by decide +kernel) (by decide +kernel), fun _ => mem_g 705 (by decide +kernel) (by decide +kernel), mem_g 73 (by decide +kernel) (by decide +kernel), rfl, ⟨by decide +kernel, by decide +kernel⟩, by decide +kernel, by decide +kernel, by decide, by decide, fun h => absurd h (by decide)⟩
abbrev mX2_readWritten : MI := (2, yX2_readWritten, cX2_readWritten, 2, none, 1, 0)
set_option maxRecDepth 100000 in
theorem oX2_readWritten : MOk mX2_readWritten := ⟨mem_g 719 (by decide +kernel) (by decide +kernel), fun h => absurd h (by decide), fun _ => mem_g 717 (by decide +kernel) (by decide +kernel), fun _ => mem_g 718 (by decide +kernel) (by decide +kernel), mem_g 73 (by decide +kernel) (by decide +kernel), rfl, ⟨by decide +kernel, by decide +kernel⟩, by decide +kernel, by decide +kernel, by decide, by decide, fun h => absurd h (by decide)⟩
abbrev mX2_stepBack : MI := (2, yX2_stepBack, cX2_stepBack, 1, (some .boolean), 0, 0)
set_option maxRecDepth 100000 in
theorem oX2_stepBack : MOk mX2_stepBack := ⟨mem_g 728 (by decide +kernel) (by decide +kernel), fun h => absurd h (by decide), fun _ => mem_g 726 (by decide +kernel) (by decide +kernel), fun _ => mem_g 727 (by decide +kernel) (by decide +kernel), mem_g 73 (by decide +kernel) (by decide +kernel), rfl, ⟨by decide +kernel, by decide +kernel⟩, by decide +kernel, by decide +kernel, by decide, by decide, fun h => absurd h (by decide)⟩
abbrev mX2_forget : MI := (2, yX2_forget, cX2_forget, 1, none, 0, 0)
set_option maxRecDepth 100000 in
theorem oX2_forget : MOk mX2_forget := ⟨mem_g 508 (by decide +kernel) (by decide +kernel), fun h => absurd h (by decide), fun _ => mem_g 506 (by decide +kernel) (by decide +kernel), fun _ => mem_g 507 (by decide +kernel) (by decide +kernel), mem_g 73 (by decide +kernel) (by decide +kernel), rfl, ⟨by decide +kernel, by decide +kernel⟩, by decide +kernel, by decide +kernel, by decide, by decide, fun h => absurd h (by decide)⟩
abbrev mX3_init : MI := (3, yX3_init, cX3_init, 4, none, 3, 2)
set_option maxRecDepth 100000 in
theorem oX3_init : MOk mX3_init := ⟨mem_g 295 (by decide +kernel) (by decide +kernel), fun h => absurd h (by decide), fun _ => mem_g 294 (by decide +kernel) (by decide +kernel), fun h => absurd h (by decide), mem_g 72 (by decide +kernel) (by decide +kernel), rfl, ⟨by decide +kernel, by decide +kernel⟩, by decide +kernel, by decide +kernel, by decide, by decide, fun _ => ⟨rfl, rfl⟩⟩
abbrev mX3_build : MI := (3, yX3_build, cX3_build, 6, (some .boolean), 2, 0)
set_option maxRecDepth 100000 in
theorem oX3_build : MOk mX3_build := ⟨mem_g 669 (by decide +kernel) (by decide +kernel), fun h => absurd h (by decide), fun _ => mem_g 667 (by decide +kernel) (by decide +kernel), fun _ => mem_g 668 (by decide +kernel) (by decide +kernel), mem_g 72 (by decide +kernel) (by decide +kernel), rfl, ⟨by decide +kernel, by decide +kernel⟩, by decide +kernel, by decide +kernel, by decide, by decide, fun h => absurd h (by decide)⟩
abbrev mX3_fillTemplate : MI := (3, yX3_fillTemplate, cX3_fillTemplate, 7, (some .boolean), 1, 0)
set_option maxRecDepth 100000 in
theorem oX3_fillTemplate : MOk mX3_fillTemplate := ⟨mem_g 675 (by decide +kernel) (by decide +kernel), fun h => absurd h (by decide), fun _ => mem_g 674 (by decide +kernel) (by decide +kernel), fun _ => mem_g 30 (by decide +kernel) (by decide +kernel), mem_g 72 (by decide +kernel) (by decide +kernel), rfl, ⟨by decide +kernel, by decide +kernel⟩, by decide +kernel, by decide +kernel, by decide, by decide, fun h => absurd h (by decide)⟩
abbrev mX3_fillLetter : MI := (3, yX3_fillLetter, cX3_fillLetter, 5, (some .boolean), 2, 0)
set_option maxRecDepth 100000 in
theorem oX3_fillLetter : MOk mX3_fillLetter := ⟨mem_g 697 (by decide +kernel) (by decide +kernel), fun h => absurd h (by decide), fun _ => mem_g 696 (by decide +kernel) (by decide +kernel), fun _ => mem_g 35 (by decide +kernel) (by decide +kernel), mem_g 72 (by decide +kernel) (by decide +kernel), rfl, ⟨by decide +kernel, by decide +kernel⟩, by decide +kernel, by decide +kernel, by decide, by decide, fun h => absurd h (by decide)⟩
abbrev mX3_dropRowsOfNone : MI := (3, yX3_dropRowsOfNone, cX3_dropRowsOfNone, 2, none, 0, 0)
set_option maxRecDepth 100000 in
theorem oX3_dropRowsOfNone : MOk mX3_dropRowsOfNone := ⟨mem_g 679 (by decide +kernel) (by decide +kernel), fun h => absurd h (by decide), fun _ => mem_g 678 (by decide +kernel) (by decide +kernel), fun _ => mem_g 31 (by decide +kernel) (by decide +kernel), mem_g 72 (by decide +kernel) (by decide +kernel), rfl, ⟨by decide +kernel, by decide +kernel⟩, by decide +kernel, by decide +kernel, by decide, by decide, fun h => absurd h (by decide)⟩
abbrev mX3_dropRow : MI := (3, yX3_dropRow, cX3_dropRow, 4, none, 1, 0)
set_option maxRecDepth 100000 in
theorem oX3_dropRow : MOk mX3_dropRow := ⟨mem_g 684 (by decide +kernel) (by decide +kernel), fun h => absurd h (by decide), fun _ => mem_g 683 (by decide +kernel) (by decide +kernel), fun _ => mem_g 32 (by decide +kernel) (by decide +kernel), mem_g 72 (by decide +kernel) (by decide +kernel), rfl, ⟨by decide +kernel, by decide +kernel⟩, by decide +kernel, by decide +kernel, by decide, by decide, fun h => absurd h (by decide)⟩
abbrev mX3_pieceAhead : MI := (3, yX3_pieceAhead, cX3_pieceAhead, 3, (some .int), 1, 0)
set_option maxRecDepth 100000 in
theorem oX3_pieceAhead : MOk mX3_pieceAhead := ⟨mem_g 692 (by decide +kernel) (by decide +kernel), fun h => absurd h (by decide), fun _ => mem_g 691 (by decide +kernel) (by decide +kernel), fun _ => mem_g 34 (by decide +kernel) (by decide +kernel), mem_g 72 (by decide +kernel) (by decide +kernel), rfl, ⟨by decide +kernel, by decide +kernel⟩, by decide +kernel, by decide +kernel, by decide, by decide, fun h => absurd h (by decide)⟩
abbrev mX3_dropBytes : MI := (3, yX3_dropBytes, cX3_dropBytes, 4, none, 2, 0)
set_option maxRecDepth 100000 in
theorem oX3_dropBytes : MOk mX3_dropBytes := ⟨mem_g 688 (by decide +kernel) (by decide +kernel), fun h => absurd h (by decide), fun _ => mem_g 687 (by decide +kernel) (by decide +kernel), fun _ => mem_g 33 (by decide +kernel) (by decide +kernel), mem_g 72 (by decide +kernel) (by decide +kernel), rfl, ⟨by decide +kernel, by decide +kernel⟩, by decide +kernel, by decide +kernel, by decide, by decide, fun h => absurd h (by decide)⟩
abbrev mX4_init : MI := (4, yX4_init, cX4_init, 1, none, 0, 2)
set_option maxRecDepth 100000 in
theorem oX4_init : MOk mX4_init := ⟨mem_g 181 (by decide +kernel) (by decide +kernel), fun h => absurd h (by decide), fun _ => mem_g 180 (by decide +kernel) (by decide +kernel), fun h => absurd h (by decide), mem_g 69 (by decide +kernel) (by decide +kernel), rfl, ⟨by decide +kernel, by decide +kernel⟩, by decide +kernel, by decide +kernel, by decide, by decide, fun _ => ⟨rfl, rfl⟩⟩
abbrev mX4_readTree : MI := (4, yX4_readTree, cX4_readTree, 4, (some .int), 2, 0)
set_option maxRecDepth 100000 in
theorem oX4_readTree : MOk mX4_readTree := ⟨mem_g 346 (by decide +kernel) (by decide +kernel), fun h => absurd h (by decide), fun _ => mem_g 344 (by decide +kernel) (by decide +kernel), fun _ => mem_g 345 (by decide +kernel) (by decide +kernel), mem_g 69 (by decide +kernel) (by decide +kernel), rfl, ⟨by decide +kernel, by decide +kernel⟩, by decide +kernel, by decide +kernel, by decide, by decide, fun h => absurd h (by decide)⟩
abbrev mX4_start : MI := (4, yX4_start, cX4_start, 4, none, 2, 0)
set_option maxRecDepth 100000 in
theorem oX4_start : MOk mX4_start := ⟨mem_g 350 (by decide +kernel) (by decide +kernel), fun h => absurd h (by decide), fun _ => mem_g 349 (by decide +kernel) (by decide +kernel), fun _ => mem_g 0 (by decide +kernel) (by decide +kernel), mem_g 69 (by decide +kernel) (by decide +kernel), rfl, ⟨by decide +kernel, by decide +kernel⟩, by decide +kernel, by decide +kernel, by decide, by decide, fun h => absurd h (by decide)⟩
abbrev mX4_skipBlanks : MI := (4, yX4_skipBlanks, cX4_skipBlanks, 2, none, 1, 0)
set_option maxRecDepth 100000 in
theorem oX4_skipBlanks : MOk mX4_skipBlanks := ⟨mem_g 354 (by decide +kernel) (by decide +kernel), fun h => absurd h (by decide), fun _ => mem_g 353 (by decide +kernel) (by decide +kernel), fun _ => mem_g 1 (by decide +kernel) (by decide +kernel), mem_g 69 (by decide +kernel) (by decide +kernel), rfl, ⟨by decide +kernel, by decide +kernel⟩, by decide +kernel, by decide +kernel, by decide, by decide, fun h => absurd h (by decide)⟩
abbrev mX4_readToken : MI := (4, yX4_readToken, cX4_readToken, 3, (some .boolean), 2, 0)
set_option maxRecDepth 100000 in
theorem oX4_readToken : MOk mX4_readToken := ⟨mem_g 361 (by decide +kernel) (by decide +kernel), fun h => absurd h (by decide), fun _ => mem_g 360 (by decide +kernel) (by decide +kernel), fun _ => mem_g 2 (by decide +kernel) (by decide +kernel), mem_g 69 (by decide +kernel) (by decide +kernel), rfl, ⟨by decide +kernel, by decide +kernel⟩, by decide +kernel, by decide +kernel, by decide, by decide, fun h => absurd h (by decide)⟩
abbrev mX4_readPiece : MI := (4, yX4_readPiece, cX4_readPiece, 3, (some .boolean), 2, 0)
set_option maxRecDepth 100000 in
theorem oX4_readPiece : MOk mX4_readPiece := ⟨mem_g 365 (by decide +kernel) (by decide +kernel), fun h => absurd h (by decide), fun _ => mem_g 364 (by decide +kernel) (by decide +kernel), fun _ => mem_g 3 (by decide +kernel) (by decide +kernel), mem_g 69 (by decide +kernel) (by decide +kernel), rfl, ⟨by decide +kernel, by decide +kernel⟩, by decide +kernel, by decide +kernel, by decide, by decide, fun h => absurd h (by decide)⟩
abbrev mX4_rowMayStand : MI := (4, yX4_rowMayStand, cX4_rowMayStand, 2, (some .boolean), 1, 0)
set_option maxRecDepth 100000 in
theorem oX4_rowMayStand : MOk mX4_rowMayStand := ⟨mem_g 391 (by decide +kernel) (by decide +kernel), fun h => absurd h (by decide), fun _ => mem_g 390 (by decide +kernel) (by decide +kernel), fun _ => mem_g 7 (by decide +kernel) (by decide +kernel), mem_g 69 (by decide +kernel) (by decide +kernel), rfl, ⟨by decide +kernel, by decide +kernel⟩, by decide +kernel, by decide +kernel, by decide, by decide, fun h => absurd h (by decide)⟩
abbrev mX4_isWithinTerm : MI := (4, yX4_isWithinTerm, cX4_isWithinTerm, 2, (some .boolean), 1, 0)
set_option maxRecDepth 100000 in
theorem oX4_isWithinTerm : MOk mX4_isWithinTerm := ⟨mem_g 395 (by decide +kernel) (by decide +kernel), fun h => absurd h (by decide), fun _ => mem_g 394 (by decide +kernel) (by decide +kernel), fun _ => mem_g 8 (by decide +kernel) (by decide +kernel), mem_g 69 (by decide +kernel) (by decide +kernel), rfl, ⟨by decide +kernel, by decide +kernel⟩, by decide +kernel, by decide +kernel, by decide, by decide, fun h => absurd h (by decide)⟩
abbrev mX4_readAtom : MI := (4, yX4_readAtom, cX4_readAtom, 3, (some .boolean), 1, 0)
set_option maxRecDepth 100000 in
theorem oX4_readAtom : MOk mX4_readAtom := ⟨mem_g 372 (by decide +kernel) (by decide +kernel), fun h => absurd h (by decide), fun _ => mem_g 371 (by decide +kernel) (by decide +kernel), fun _ => mem_g 4 (by decide +kernel) (by decide +kernel), mem_g 69 (by decide +kernel) (by decide +kernel), rfl, ⟨by decide +kernel, by decide +kernel⟩, by decide +kernel, by decide +kernel, by decide, by decide, fun h => absurd h (by decide)⟩
abbrev mX4_readLettered : MI := (4, yX4_readLettered, cX4_readLettered, 7, (some .boolean), 2, 0)
set_option maxRecDepth 100000 in
theorem oX4_readLettered : MOk mX4_readLettered := ⟨mem_g 380 (by decide +kernel) (by decide +kernel), fun h => absurd h (by decide), fun _ => mem_g 379 (by decide +kernel) (by decide +kernel), fun _ => mem_g 6 (by decide +kernel) (by decide +kernel), mem_g 69 (by decide +kernel) (by decide +kernel), rfl, ⟨by decide +kernel, by decide +kernel⟩, by decide +kernel, by decide +kernel, by decide, by decide, fun h => absurd h (by decide)⟩
abbrev mX4_readDeep : MI := (4, yX4_readDeep, cX4_readDeep, 2, (some .boolean), 1, 0)
set_option maxRecDepth 100000 in
theorem oX4_readDeep : MOk mX4_readDeep := ⟨mem_g 399 (by decide +kernel) (by decide +kernel), fun h => absurd h (by decide), fun _ => mem_g 398 (by decide +kernel) (by decide +kernel), fun _ => mem_g 9 (by decide +kernel) (by decide +kernel), mem_g 69 (by decide +kernel) (by decide +kernel), rfl, ⟨by decide +kernel, by decide +kernel⟩, by decide +kernel, by decide +kernel, by decide, by decide, fun h => absurd h (by decide)⟩
abbrev mX4_addPiece : MI := (4, yX4_addPiece, cX4_addPiece, 5, (some .boolean), 3, 0)
set_option maxRecDepth 100000 in
theorem oX4_addPiece : MOk mX4_addPiece := ⟨mem_g 376 (by decide +kernel) (by decide +kernel), fun h => absurd h (by decide), fun _ => mem_g 375 (by decide +kernel) (by decide +kernel), fun _ => mem_g 5 (by decide +kernel) (by decide +kernel), mem_g 69 (by decide +kernel) (by decide +kernel), rfl, ⟨by decide +kernel, by decide +kernel⟩, by decide +kernel, by decide +kernel, by decide, by decide, fun h => absurd h (by decide)⟩
abbrev mX4_readOpening : MI := (4, yX4_readOpening, cX4_readOpening, 2, (some .boolean), 1, 0)
set_option maxRecDepth 100000 in
theorem oX4_readOpening : MOk mX4_readOpening := ⟨mem_g 407 (by decide +kernel) (by decide +kernel), fun h => absurd h (by decide), fun _ => mem_g 406 (by decide +kernel) (by decide +kernel), fun _ => mem_g 11 (by decide +kernel) (by decide +kernel), mem_g 69 (by decide +kernel) (by decide +kernel), rfl, ⟨by decide +kernel, by decide +kernel⟩, by decide +kernel, by decide +kernel, by decide, by decide, fun h => absurd h (by decide)⟩
abbrev mX4_readBehindPiece : MI := (4, yX4_readBehindPiece, cX4_readBehindPiece, 3, (some .boolean), 2, 0)
set_option maxRecDepth 100000 in
theorem oX4_readBehindPiece : MOk mX4_readBehindPiece := ⟨mem_g 411 (by decide +kernel) (by decide +kernel), fun h => absurd h (by decide), fun _ => mem_g 410 (by decide +kernel) (by decide +kernel), fun _ => mem_g 12 (by decide +kernel) (by decide +kernel), mem_g 69 (by decide +kernel) (by decide +kernel), rfl, ⟨by decide +kernel, by decide +kernel⟩, by decide +kernel, by decide +kernel, by decide, by decide, fun h => absurd h (by decide)⟩
abbrev mX4_readClosing : MI := (4, yX4_readClosing, cX4_readClosing, 2, (some .boolean), 1, 0)
set_option maxRecDepth 100000 in
theorem oX4_readClosing : MOk mX4_readClosing := ⟨mem_g 403 (by decide +kernel) (by decide +kernel), fun h => absurd h (by decide), fun _ => mem_g 402 (by decide +kernel) (by decide +kernel), fun _ => mem_g 10 (by decide +kernel) (by decide +kernel), mem_g 69 (by decide +kernel) (by decide +kernel), rfl, ⟨by decide +kernel, by decide +kernel⟩, by decide +kernel, by decide +kernel, by decide, by decide, fun h => absurd h (by decide)⟩
abbrev mX5_init : MI := (5, yX5_init, cX5_init, 1, none, 0, 2)
set_option maxRecDepth 100000 in
theorem oX5_init : MOk mX5_init := ⟨mem_g 94 (by decide +kernel) (by decide +kernel), fun h => absurd h (by decide), fun _ => mem_g 93 (by decide +kernel) (by decide +kernel), fun h => absurd h (by decide), mem_g 68 (by decide +kernel) (by decide +kernel), rfl, ⟨by decide +kernel, by decide +kernel⟩, by decide +kernel, by decide +kernel, by decide, by decide, fun _ => ⟨rfl, rfl⟩⟩
abbrev mX5_load : MI := (5, yX5_load, cX5_load, 3, none, 2, 0)
set_option maxRecDepth 100000 in
theorem oX5_load : MOk mX5_load := ⟨mem_g 335 (by decide +kernel) (by decide +kernel), fun h => absurd h (by decide), fun _ => mem_g 333 (by decide +kernel) (by decide +kernel), fun _ => mem_g 334 (by decide +kernel) (by decide +kernel), mem_g 68 (by decide +kernel) (by decide +kernel), rfl, ⟨by decide +kernel, by decide +kernel⟩, by decide +kernel, by decide +kernel, by decide, by decide, fun h => absurd h (by decide)⟩
abbrev mX5_copyOf : MI := (5, yX5_copyOf, cX5_copyOf, 2, none, 1, 0)
set_option maxRecDepth 100000 in
theorem oX5_copyOf : MOk mX5_copyOf := ⟨mem_g 419 (by decide +kernel) (by decide +kernel), fun h => absurd h (by decide), fun _ => mem_g 417 (by decide +kernel) (by decide +kernel), fun _ => mem_g 418 (by decide +kernel) (by decide +kernel), mem_g 68 (by decide +kernel) (by decide +kernel), rfl, ⟨by decide +kernel, by decide +kernel⟩, by decide +kernel, by decide +kernel, by decide, by decide, fun h => absurd h (by decide)⟩
abbrev mX5_append : MI := (5, yX5_append, cX5_append, 5, (some .boolean), 3, 0)
set_option maxRecDepth 100000 in
theorem oX5_append : MOk mX5_append := ⟨mem_g 339 (by decide +kernel) (by decide +kernel), fun h => absurd h (by decide), fun _ => mem_g 337 (by decide +kernel) (by decide +kernel), fun _ => mem_g 338 (by decide +kernel) (by decide +kernel), mem_g 68 (by decide +kernel) (by decide +kernel), rfl, ⟨by decide +kernel, by decide +kernel⟩, by decide +kernel, by decide +kernel, by decide, by decide, fun h => absurd h (by decide)⟩
abbrev mX5_kindOf : MI := (5, yX5_kindOf, cX5_kindOf, 3, (some .int), 1, 0)
set_option maxRecDepth 100000 in
theorem oX5_kindOf : MOk mX5_kindOf := ⟨mem_g 387 (by decide +kernel) (by decide +kernel), fun h => absurd h (by decide), fun _ => mem_g 385 (by decide +kernel) (by decide +kernel), fun _ => mem_g 386 (by decide +kernel) (by decide +kernel), mem_g 68 (by decide +kernel) (by decide +kernel), rfl, ⟨by decide +kernel, by decide +kernel⟩, by decide +kernel, by decide +kernel, by decide, by decide, fun h => absurd h (by decide)⟩
abbrev mX5_next : MI := (5, yX5_next, cX5_next, 2, (some .int), 1, 0)
set_option maxRecDepth 100000 in
theorem oX5_next : MOk mX5_next := ⟨mem_g 434 (by decide +kernel) (by decide +kernel), fun h => absurd h (by decide), fun _ => mem_g 432 (by decide +kernel) (by decide +kernel), fun _ => mem_g 433 (by decide +kernel) (by decide +kernel), mem_g 68 (by decide +kernel) (by decide +kernel), rfl, ⟨by decide +kernel, by decide +kernel⟩, by decide +kernel, by decide +kernel, by decide, by decide, fun h => absurd h (by decide)⟩
abbrev mX5_lastByteBehind : MI := (5, yX5_lastByteBehind, cX5_lastByteBehind, 5, (some .int), 2, 0)
set_option maxRecDepth 100000 in
theorem oX5_lastByteBehind : MOk mX5_lastByteBehind := ⟨mem_g 702 (by decide +kernel) (by decide +kernel), fun h => absurd h (by decide), fun _ => mem_g 700 (by decide +kernel) (by decide +kernel), fun _ => mem_g 701 (by decide +kernel) (by decide +kernel), mem_g 68 (by decide +kernel) (by decide +kernel), rfl, ⟨by decide +kernel, by decide +kernel⟩, by decide +kernel, by decide +kernel, by decide, by decide, fun h => absurd h (by decide)⟩
abbrev mX5_markAlike : MI := (5, yX5_markAlike, cX5_markAlike, 3, none, 0, 0)
set_option maxRecDepth 100000 in
theorem oX5_markAlike : MOk mX5_markAlike := ⟨mem_g 423 (by decide +kernel) (by decide +kernel), fun h => absurd h (by decide), fun _ => mem_g 421 (by decide +kernel) (by decide +kernel), fun _ => mem_g 422 (by decide +kernel) (by decide +kernel), mem_g 68 (by decide +kernel) (by decide +kernel), rfl, ⟨by decide +kernel, by decide +kernel⟩, by decide +kernel, by decide +kernel, by decide, by decide, fun h => absurd h (by decide)⟩
abbrev mX5_looksAlike : MI := (5, yX5_looksAlike, cX5_looksAlike, 6, (some .boolean), 2, 0)
set_option maxRecDepth 100000 in
theorem oX5_looksAlike : MOk mX5_looksAlike := ⟨mem_g 427 (by decide +kernel) (by decide +kernel), fun h => absurd h (by decide), fun _ => mem_g 426 (by decide +kernel) (by decide +kernel), fun _ => mem_g 14 (by decide +kernel) (by decide +kernel), mem_g 68 (by decide +kernel) (by decide +kernel), rfl, ⟨by decide +kernel, by decide +kernel⟩, by decide +kernel, by decide +kernel, by decide, by decide, fun h => absurd h (by decide)⟩
abbrev mX5_sameAtom : MI := (5, yX5_sameAtom, cX5_sameAtom, 8, (some .boolean), 4, 1)
set_option maxRecDepth 100000 in
theorem oX5_sameAtom : MOk mX5_sameAtom := ⟨mem_g 430 (by decide +kernel) (by decide +kernel), fun _ => mem_g 429 (by decide +kernel) (by decide +kernel), fun h => absurd rfl h, fun h => absurd h (by decide), mem_g 68 (by decide +kernel) (by decide +kernel), rfl, ⟨by decide +kernel, by decide +kernel⟩, by decide +kernel, by decide +kernel, by decide, by decide, fun h => absurd h (by decide)⟩
abbrev mX6_init : MI := (6, yX6_init, cX6_init, 1, none, 0, 2)
set_option maxRecDepth 100000 in
theorem oX6_init : MOk mX6_init := ⟨mem_g 86 (by decide +kernel) (by decide +kernel), fun h => absurd h (by decide), fun _ => mem_g 85 (by decide +kernel) (by decide +kernel), fun h => absurd h (by decide), mem_g 67 (by decide +kernel) (by decide +kernel), rfl, ⟨by decide +kernel, by decide +kernel⟩, by decide +kernel, by decide +kernel, by decide, by decide, fun _ => ⟨rfl, rfl⟩⟩
abbrev mX6_feed : MI := (6, yX6_feed, cX6_feed, 7, (some .int), 5, 0)
set_option maxRecDepth 100000 in
theorem oX6_feed : MOk mX6_feed := ⟨mem_g 484 (by decide +kernel) (by decide +kernel), fun h => absurd h (by decide), fun _ => mem_g 482 (by decide +kernel) (by decide +kernel), fun _ => mem_g 483 (by decide +kernel) (by decide +kernel), mem_g 67 (by decide +kernel) (by decide +kernel), rfl, ⟨by decide +kernel, by decide +kernel⟩, by decide +kernel, by decide +kernel, by decide, by decide, fun h => absurd h (by decide)⟩
abbrev mX6_end : MI := (6, yX6_end, cX6_end, 2, (some .boolean), 1, 0)
set_option maxRecDepth 100000 in
theorem oX6_end : MOk mX6_end := ⟨mem_g 492 (by decide +kernel) (by decide +kernel), fun h => absurd h (by decide), fun _ => mem_g 490 (by decide +kernel) (by decide +kernel), fun _ => mem_g 491 (by decide +kernel) (by decide +kernel), mem_g 67 (by decide +kernel) (by decide +kernel), rfl, ⟨by decide +kernel, by decide +kernel⟩, by decide +kernel, by decide +kernel, by decide, by decide, fun h => absurd h (by decide)⟩
abbrev mX6_fault : MI := (6, yX6_fault, cX6_fault, 2, (some .int), 1, 0)
set_option maxRecDepth 100000 in
theorem oX6_fault : MOk mX6_fault := ⟨mem_g 496 (by decide +kernel) (by decide +kernel), fun h => absurd h (by decide), fun _ => mem_g 494 (by decide +kernel) (by decide +kernel), fun _ => mem_g 495 (by decide +kernel) (by decide +kernel), mem_g 67 (by decide +kernel) (by decide +kernel), rfl, ⟨by decide +kernel, by decide +kernel⟩, by decide +kernel, by decide +kernel, by decide, by decide, fun h => absurd h (by decide)⟩
abbrev mX6_take : MI := (6, yX6_take, cX6_take, 2, (some .boolean), 1, 0)
set_option maxRecDepth 100000 in
theorem oX6_take : MOk mX6_take := ⟨mem_g 504 (by decide +kernel) (by decide +kernel), fun h => absurd h (by decide), fun _ => mem_g 502 (by decide +kernel) (by decide +kernel), fun _ => mem_g 503 (by decide +kernel) (by decide +kernel), mem_g 67 (by decide +kernel) (by decide +kernel), rfl, ⟨by decide +kernel, by decide +kernel⟩, by decide +kernel, by decide +kernel, by decide, by decide, fun h => absurd h (by decide)⟩
abbrev mX6_differ : MI := (6, yX6_differ, cX6_differ, 4, (some .boolean), 3, 0)
set_option maxRecDepth 100000 in
theorem oX6_differ : MOk mX6_differ := ⟨mem_g 516 (by decide +kernel) (by decide +kernel), fun h => absurd h (by decide), fun _ => mem_g 514 (by decide +kernel) (by decide +kernel), fun _ => mem_g 515 (by decide +kernel) (by decide +kernel), mem_g 67 (by decide +kernel) (by decide +kernel), rfl, ⟨by decide +kernel, by decide +kernel⟩, by decide +kernel, by decide +kernel, by decide, by decide, fun h => absurd h (by decide)⟩
abbrev mX6_nodes : MI := (6, yX6_nodes, cX6_nodes, 1, (some .int), 0, 0)
set_option maxRecDepth 100000 in
theorem oX6_nodes : MOk mX6_nodes := ⟨mem_g 531 (by decide +kernel) (by decide +kernel), fun h => absurd h (by decide), fun _ => mem_g 529 (by decide +kernel) (by decide +kernel), fun _ => mem_g 530 (by decide +kernel) (by decide +kernel), mem_g 67 (by decide +kernel) (by decide +kernel), rfl, ⟨by decide +kernel, by decide +kernel⟩, by decide +kernel, by decide +kernel, by decide, by decide, fun h => absurd h (by decide)⟩
abbrev mX6_node : MI := (6, yX6_node, cX6_node, 3, (some .int), 2, 0)
set_option maxRecDepth 100000 in
theorem oX6_node : MOk mX6_node := ⟨mem_g 535 (by decide +kernel) (by decide +kernel), fun h => absurd h (by decide), fun _ => mem_g 533 (by decide +kernel) (by decide +kernel), fun _ => mem_g 534 (by decide +kernel) (by decide +kernel), mem_g 67 (by decide +kernel) (by decide +kernel), rfl, ⟨by decide +kernel, by decide +kernel⟩, by decide +kernel, by decide +kernel, by decide, by decide, fun h => absurd h (by decide)⟩
abbrev mX6_alike : MI := (6, yX6_alike, cX6_alike, 3, (some .boolean), 2, 0)
set_option maxRecDepth 100000 in
theorem oX6_alike : MOk mX6_alike := ⟨mem_g 546 (by decide +kernel) (by decide +kernel), fun h => absurd h (by decide), fun _ => mem_g 544 (by decide +kernel) (by decide +kernel), fun _ => mem_g 545 (by decide +kernel) (by decide +kernel), mem_g 67 (by decide +kernel) (by decide +kernel), rfl, ⟨by decide +kernel, by decide +kernel⟩, by decide +kernel, by decide +kernel, by decide, by decide, fun h => absurd h (by decide)⟩
abbrev mX6_matches : MI := (6, yX6_matches, cX6_matches, 1, (some .int), 0, 0)
set_option maxRecDepth 100000 in
theorem oX6_matches : MOk mX6_matches := ⟨mem_g 550 (by decide +kernel) (by decide +kernel), fun h => absurd h (by decide), fun _ => mem_g 548 (by decide +kernel) (by decide +kernel), fun _ => mem_g 549 (by decide +kernel) (by decide +kernel), mem_g 67 (by decide +kernel) (by decide +kernel), rfl, ⟨by decide +kernel, by decide +kernel⟩, by decide +kernel, by decide +kernel, by decide, by decide, fun h => absurd h (by decide)⟩
abbrev mX6_match : MI := (6, yX6_match, cX6_match, 2, (some .int), 1, 0)
set_option maxRecDepth 100000 in
theorem oX6_match : MOk mX6_match := ⟨mem_g 601 (by decide +kernel) (by decide +kernel), fun h => absurd h (by decide), fun _ => mem_g 599 (by decide +kernel) (by decide +kernel), fun _ => mem_g 600 (by decide +kernel) (by decide +kernel), mem_g 67 (by decide +kernel) (by decide +kernel), rfl, ⟨by decide +kernel, by decide +kernel⟩, by decide +kernel, by decide +kernel, by decide, by decide, fun h => absurd h (by decide)⟩
abbrev mX6_hole : MI := (6, yX6_hole, cX6_hole, 3, (some .int), 2, 0)
set_option maxRecDepth 100000 in
theorem oX6_hole : MOk mX6_hole := ⟨mem_g 609 (by decide +kernel) (by decide +kernel), fun h => absurd h (by decide), fun _ => mem_g 607 (by decide +kernel) (by decide +kernel), fun _ => mem_g 608 (by decide +kernel) (by decide +kernel), mem_g 67 (by decide +kernel) (by decide +kernel), rfl, ⟨by decide +kernel, by decide +kernel⟩, by decide +kernel, by decide +kernel, by decide, by decide, fun h => absurd h (by decide)⟩
abbrev mX6_row : MI := (6, yX6_row, cX6_row, 3, (some .int), 2, 0)
set_option maxRecDepth 100000 in
theorem oX6_row : MOk mX6_row := ⟨mem_g 623 (by decide +kernel) (by decide +kernel), fun h => absurd h (by decide), fun _ => mem_g 621 (by decide +kernel) (by decide +kernel), fun _ => mem_g 622 (by decide +kernel) (by decide +kernel), mem_g 67 (by decide +kernel) (by decide +kernel), rfl, ⟨by decide +kernel, by decide +kernel⟩, by decide +kernel, by decide +kernel, by decide, by decide, fun h => absurd h (by decide)⟩
abbrev mX6_taken : MI := (6, yX6_taken, cX6_taken, 2, (some .int), 1, 0)
set_option maxRecDepth 100000 in
theorem oX6_taken : MOk mX6_taken := ⟨mem_g 631 (by decide +kernel) (by decide +kernel), fun h => absurd h (by decide), fun _ => mem_g 629 (by decide +kernel) (by decide +kernel), fun _ => mem_g 630 (by decide +kernel) (by decide +kernel), mem_g 67 (by decide +kernel) (by decide +kernel), rfl, ⟨by decide +kernel, by decide +kernel⟩, by decide +kernel, by decide +kernel, by decide, by decide, fun h => absurd h (by decide)⟩
abbrev mX6_takes : MI := (6, yX6_takes, cX6_takes, 3, (some .int), 2, 0)
set_option maxRecDepth 100000 in
theorem oX6_takes : MOk mX6_takes := ⟨mem_g 648 (by decide +kernel) (by decide +kernel), fun h => absurd h (by decide), fun _ => mem_g 646 (by decide +kernel) (by decide +kernel), fun _ => mem_g 647 (by decide +kernel) (by decide +kernel), mem_g 67 (by decide +kernel) (by decide +kernel), rfl, ⟨by decide +kernel, by decide +kernel⟩, by decide +kernel, by decide +kernel, by decide, by decide, fun h => absurd h (by decide)⟩
abbrev mX6_put : MI := (6, yX6_put, cX6_put, 3, (some .int), 1, 0)
set_option maxRecDepth 100000 in
theorem oX6_put : MOk mX6_put := ⟨mem_g 652 (by decide +kernel) (by decide +kernel), fun h => absurd h (by decide), fun _ => mem_g 650 (by decide +kernel) (by decide +kernel), fun _ => mem_g 651 (by decide +kernel) (by decide +kernel), mem_g 67 (by decide +kernel) (by decide +kernel), rfl, ⟨by decide +kernel, by decide +kernel⟩, by decide +kernel, by decide +kernel, by decide, by decide, fun h => absurd h (by decide)⟩
abbrev mX6_putAll : MI := (6, yX6_putAll, cX6_putAll, 4, (some .int), 1, 0)
set_option maxRecDepth 100000 in
theorem oX6_putAll : MOk mX6_putAll := ⟨mem_g 711 (by decide +kernel) (by decide +kernel), fun h => absurd h (by decide), fun _ => mem_g 709 (by decide +kernel) (by decide +kernel), fun _ => mem_g 710 (by decide +kernel) (by decide +kernel), mem_g 67 (by decide +kernel) (by decide +kernel), rfl, ⟨by decide +kernel, by decide +kernel⟩, by decide +kernel, by decide +kernel, by decide, by decide, fun h => absurd h (by decide)⟩
abbrev mX6_back : MI := (6, yX6_back, cX6_back, 1, (some .boolean), 0, 0)
set_option maxRecDepth 100000 in
theorem oX6_back : MOk mX6_back := ⟨mem_g 724 (by decide +kernel) (by decide +kernel), fun h => absurd h (by decide), fun _ => mem_g 722 (by decide +kernel) (by decide +kernel), fun _ => mem_g 723 (by decide +kernel) (by decide +kernel), mem_g 67 (by decide +kernel) (by decide +kernel), rfl, ⟨by decide +kernel, by decide +kernel⟩, by decide +kernel, by decide +kernel, by decide, by decide, fun h => absurd h (by decide)⟩
abbrev mX6_at : MI := (6, yX6_at, cX6_at, 2, (some .int), 1, 0)
set_option maxRecDepth 100000 in
theorem oX6_at : MOk mX6_at := ⟨mem_g 740 (by decide +kernel) (by decide +kernel), fun h => absurd h (by decide), fun _ => mem_g 738 (by decide +kernel) (by decide +kernel), fun _ => mem_g 739 (by decide +kernel) (by decide +kernel), mem_g 67 (by decide +kernel) (by decide +kernel), rfl, ⟨by decide +kernel, by decide +kernel⟩, by decide +kernel, by decide +kernel, by decide, by decide, fun h => absurd h (by decide)⟩
abbrev mX6_count : MI := (6, yX6_count, cX6_count, 2, (some .int), 1, 0)
set_option maxRecDepth 100000 in
theorem oX6_count : MOk mX6_count := ⟨mem_g 732 (by decide +kernel) (by decide +kernel), fun h => absurd h (by decide), fun _ => mem_g 730 (by decide +kernel) (by decide +kernel), fun _ => mem_g 731 (by decide +kernel) (by decide +kernel), mem_g 67 (by decide +kernel) (by decide +kernel), rfl, ⟨by decide +kernel, by decide +kernel⟩, by decide +kernel, by decide +kernel, by decide, by decide, fun h => absurd h (by decide)⟩
abbrev mX6_writeFed : MI := (6, yX6_writeFed, cX6_writeFed, 6, (some .int), 2, 0)
set_option maxRecDepth 100000 in
theorem oX6_writeFed : MOk mX6_writeFed := ⟨mem_g 488 (by decide +kernel) (by decide +kernel), fun h => absurd h (by decide), fun _ => mem_g 487 (by decide +kernel) (by decide +kernel), fun _ => mem_g 16 (by decide +kernel) (by decide +kernel), mem_g 67 (by decide +kernel) (by decide +kernel), rfl, ⟨by decide +kernel, by decide +kernel⟩, by decide +kernel, by decide +kernel, by decide, by decide, fun h => absurd h (by decide)⟩
abbrev mX6_readTape : MI := (6, yX6_readTape, cX6_readTape, 2, (some .int), 1, 0)
set_option maxRecDepth 100000 in
theorem oX6_readTape : MOk mX6_readTape := ⟨mem_g 500 (by decide +kernel) (by decide +kernel), fun h => absurd h (by decide), fun _ => mem_g 499 (by decide +kernel) (by decide +kernel), fun _ => mem_g 17 (by decide +kernel) (by decide +kernel), mem_g 67 (by decide +kernel) (by decide +kernel), rfl, ⟨by decide +kernel, by decide +kernel⟩, by decide +kernel, by decide +kernel, by decide, by decide, fun h => absurd h (by decide)⟩
abbrev mX6_adoptSpare : MI := (6, yX6_adoptSpare, cX6_adoptSpare, 3, none, 1, 0)
set_option maxRecDepth 100000 in
theorem oX6_adoptSpare : MOk mX6_adoptSpare := ⟨mem_g 415 (by decide +kernel) (by decide +kernel), fun h => absurd h (by decide), fun _ => mem_g 414 (by decide +kernel) (by decide +kernel), fun _ => mem_g 13 (by decide +kernel) (by decide +kernel), mem_g 67 (by decide +kernel) (by decide +kernel), rfl, ⟨by decide +kernel, by decide +kernel⟩, by decide +kernel, by decide +kernel, by decide, by decide, fun h => absurd h (by decide)⟩
abbrev mX6_restoreWritten : MI := (6, yX6_restoreWritten, cX6_restoreWritten, 1, none, 0, 0)
set_option maxRecDepth 100000 in
theorem oX6_restoreWritten : MOk mX6_restoreWritten := ⟨mem_g 715 (by decide +kernel) (by decide +kernel), fun h => absurd h (by decide), fun _ => mem_g 714 (by decide +kernel) (by decide +kernel), fun _ => mem_g 36 (by decide +kernel) (by decide +kernel), mem_g 67 (by decide +kernel) (by decide +kernel), rfl, ⟨by decide +kernel, by decide +kernel⟩, by decide +kernel, by decide +kernel, by decide, by decide, fun h => absurd h (by decide)⟩
abbrev mX6_putOnce : MI := (6, yX6_putOnce, cX6_putOnce, 2, (some .int), 1, 0)
set_option maxRecDepth 100000 in
theorem oX6_putOnce : MOk mX6_putOnce := ⟨mem_g 665 (by decide +kernel) (by decide +kernel), fun h => absurd h (by decide), fun _ => mem_g 664 (by decide +kernel) (by decide +kernel), fun _ => mem_g 29 (by decide +kernel) (by decide +kernel), mem_g 67 (by decide +kernel) (by decide +kernel), rfl, ⟨by decide +kernel, by decide +kernel⟩, by decide +kernel, by decide +kernel, by decide, by decide, fun h => absurd h (by decide)⟩
abbrev mX6_mayPut : MI := (6, yX6_mayPut, cX6_mayPut, 4, (some .boolean), 1, 0)
set_option maxRecDepth 100000 in
theorem oX6_mayPut : MOk mX6_mayPut := ⟨mem_g 656 (by decide +kernel) (by decide +kernel), fun h => absurd h (by decide), fun _ => mem_g 655 (by decide +kernel) (by decide +kernel), fun _ => mem_g 28 (by decide +kernel) (by decide +kernel), mem_g 67 (by decide +kernel) (by decide +kernel), rfl, ⟨by decide +kernel, by decide +kernel⟩, by decide +kernel, by decide +kernel, by decide, by decide, fun h => absurd h (by decide)⟩
abbrev mX6_isBound : MI := (6, yX6_isBound, cX6_isBound, 3, (some .boolean), 2, 0)
set_option maxRecDepth 100000 in
theorem oX6_isBound : MOk mX6_isBound := ⟨mem_g 613 (by decide +kernel) (by decide +kernel), fun h => absurd h (by decide), fun _ => mem_g 612 (by decide +kernel) (by decide +kernel), fun _ => mem_g 26 (by decide +kernel) (by decide +kernel), mem_g 67 (by decide +kernel) (by decide +kernel), rfl, ⟨by decide +kernel, by decide +kernel⟩, by decide +kernel, by decide +kernel, by decide, by decide, fun h => absurd h (by decide)⟩
abbrev mX6_isNode : MI := (6, yX6_isNode, cX6_isNode, 2, (some .boolean), 1, 0)
set_option maxRecDepth 100000 in
theorem oX6_isNode : MOk mX6_isNode := ⟨mem_g 539 (by decide +kernel) (by decide +kernel), fun h => absurd h (by decide), fun _ => mem_g 538 (by decide +kernel) (by decide +kernel), fun _ => mem_g 18 (by decide +kernel) (by decide +kernel), mem_g 67 (by decide +kernel) (by decide +kernel), rfl, ⟨by decide +kernel, by decide +kernel⟩, by decide +kernel, by decide +kernel, by decide, by decide, fun h => absurd h (by decide)⟩
abbrev mX6_isLetter : MI := (6, yX6_isLetter, cX6_isLetter, 1, (some .boolean), 1, 1)
set_option maxRecDepth 100000 in
theorem oX6_isLetter : MOk mX6_isLetter := ⟨mem_g 519 (by decide +kernel) (by decide +kernel), fun _ => mem_g 518 (by decide +kernel) (by decide +kernel), fun h => absurd rfl h, fun h => absurd h (by decide), mem_g 67 (by decide +kernel) (by decide +kernel), rfl, ⟨by decide +kernel, by decide +kernel⟩, by decide +kernel, by decide +kernel, by decide, by decide, fun h => absurd h (by decide)⟩
abbrev mX6_isRule : MI := (6, yX6_isRule, cX6_isRule, 1, (some .boolean), 1, 1)
set_option maxRecDepth 100000 in
theorem oX6_isRule : MOk mX6_isRule := ⟨mem_g 634 (by decide +kernel) (by decide +kernel), fun _ => mem_g 633 (by decide +kernel) (by decide +kernel), fun h => absurd rfl h, fun h => absurd h (by decide), mem_g 67 (by decide +kernel) (by decide +kernel), rfl, ⟨by decide +kernel, by decide +kernel⟩, by decide +kernel, by decide +kernel, by decide, by decide, fun h => absurd h (by decide)⟩
abbrev mX6_isSmall : MI := (6, yX6_isSmall, cX6_isSmall, 1, (some .boolean), 1, 1)
set_option maxRecDepth 100000 in
theorem oX6_isSmall : MOk mX6_isSmall := ⟨mem_g 383 (by decide +kernel) (by decide +kernel), fun _ => mem_g 382 (by decide +kernel) (by decide +kernel), fun h => absurd rfl h, fun h => absurd h (by decide), mem_g 67 (by decide +kernel) (by decide +kernel), rfl, ⟨by decide +kernel, by decide +kernel⟩, by decide +kernel, by decide +kernel, by decide, by decide, fun h => absurd h (by decide)⟩
abbrev mX6_isAtomByte : MI := (6, yX6_isAtomByte, cX6_isAtomByte, 1, (some .boolean), 1, 1)
set_option maxRecDepth 100000 in
theorem oX6_isAtomByte : MOk mX6_isAtomByte := ⟨mem_g 368 (by decide +kernel) (by decide +kernel), fun _ => mem_g 367 (by decide +kernel) (by decide +kernel), fun h => absurd rfl h, fun h => absurd h (by decide), mem_g 67 (by decide +kernel) (by decide +kernel), rfl, ⟨by decide +kernel, by decide +kernel⟩, by decide +kernel, by decide +kernel, by decide, by decide, fun h => absurd h (by decide)⟩
abbrev mX6_isBlank : MI := (6, yX6_isBlank, cX6_isBlank, 1, (some .boolean), 1, 1)
set_option maxRecDepth 100000 in
theorem oX6_isBlank : MOk mX6_isBlank := ⟨mem_g 357 (by decide +kernel) (by decide +kernel), fun _ => mem_g 356 (by decide +kernel) (by decide +kernel), fun h => absurd rfl h, fun h => absurd h (by decide), mem_g 67 (by decide +kernel) (by decide +kernel), rfl, ⟨by decide +kernel, by decide +kernel⟩, by decide +kernel, by decide +kernel, by decide, by decide, fun h => absurd h (by decide)⟩
abbrev mX7_init : MI := (7, yX7_init, cX7_init, 1, none, 0, 2)
set_option maxRecDepth 100000 in
theorem oX7_init : MOk mX7_init := ⟨mem_g 817 (by decide +kernel) (by decide +kernel), fun h => absurd h (by decide), fun _ => mem_g 816 (by decide +kernel) (by decide +kernel), fun h => absurd h (by decide), mem_g 76 (by decide +kernel) (by decide +kernel), rfl, ⟨by decide +kernel, by decide +kernel⟩, by decide +kernel, by decide +kernel, by decide, by decide, fun _ => ⟨rfl, rfl⟩⟩
abbrev mX7_term : MI := (7, yX7_term, cX7_term, 5, (some .int), 2, 0)
set_option maxRecDepth 100000 in
theorem oX7_term : MOk mX7_term := ⟨mem_g 1078 (by decide +kernel) (by decide +kernel), fun h => absurd h (by decide), fun _ => mem_g 1076 (by decide +kernel) (by decide +kernel), fun _ => mem_g 1077 (by decide +kernel) (by decide +kernel), mem_g 76 (by decide +kernel) (by decide +kernel), rfl, ⟨by decide +kernel, by decide +kernel⟩, by decide +kernel, by decide +kernel, by decide, by decide, fun h => absurd h (by decide)⟩
abbrev mX8_init : MI := (8, yX8_init, cX8_init, 3, none, 0, 2)
set_option maxRecDepth 100000 in
theorem oX8_init : MOk mX8_init := ⟨mem_g 811 (by decide +kernel) (by decide +kernel), fun h => absurd h (by decide), fun _ => mem_g 810 (by decide +kernel) (by decide +kernel), fun h => absurd h (by decide), mem_g 75 (by decide +kernel) (by decide +kernel), rfl, ⟨by decide +kernel, by decide +kernel⟩, by decide +kernel, by decide +kernel, by decide, by decide, fun _ => ⟨rfl, rfl⟩⟩
abbrev mX8_thrown : MI := (8, yX8_thrown, cX8_thrown, 1, (some .int), 0, 0)
set_option maxRecDepth 100000 in
theorem oX8_thrown : MOk mX8_thrown := ⟨mem_g 1033 (by decide +kernel) (by decide +kernel), fun h => absurd h (by decide), fun _ => mem_g 1031 (by decide +kernel) (by decide +kernel), fun _ => mem_g 1032 (by decide +kernel) (by decide +kernel), mem_g 75 (by decide +kernel) (by decide +kernel), rfl, ⟨by decide +kernel, by decide +kernel⟩, by decide +kernel, by decide +kernel, by decide, by decide, fun h => absurd h (by decide)⟩
abbrev mX8_isIn : MI := (8, yX8_isIn, cX8_isIn, 3, (some .boolean), 3, 1)
set_option maxRecDepth 100000 in
theorem oX8_isIn : MOk mX8_isIn := ⟨mem_g 873 (by decide +kernel) (by decide +kernel), fun _ => mem_g 872 (by decide +kernel) (by decide +kernel), fun h => absurd rfl h, fun h => absurd h (by decide), mem_g 75 (by decide +kernel) (by decide +kernel), rfl, ⟨by decide +kernel, by decide +kernel⟩, by decide +kernel, by decide +kernel, by decide, by decide, fun h => absurd h (by decide)⟩
abbrev mX8_look : MI := (8, yX8_look, cX8_look, 1, (some .int), 0, 0)
set_option maxRecDepth 100000 in
theorem oX8_look : MOk mX8_look := ⟨mem_g 885 (by decide +kernel) (by decide +kernel), fun h => absurd h (by decide), fun _ => mem_g 884 (by decide +kernel) (by decide +kernel), fun _ => mem_g 40 (by decide +kernel) (by decide +kernel), mem_g 75 (by decide +kernel) (by decide +kernel), rfl, ⟨by decide +kernel, by decide +kernel⟩, by decide +kernel, by decide +kernel, by decide, by decide, fun h => absurd h (by decide)⟩
abbrev mX8_isSmall : MI := (8, yX8_isSmall, cX8_isSmall, 1, (some .boolean), 1, 1)
set_option maxRecDepth 100000 in
theorem oX8_isSmall : MOk mX8_isSmall := ⟨mem_g 891 (by decide +kernel) (by decide +kernel), fun _ => mem_g 890 (by decide +kernel) (by decide +kernel), fun h => absurd rfl h, fun h => absurd h (by decide), mem_g 75 (by decide +kernel) (by decide +kernel), rfl, ⟨by decide +kernel, by decide +kernel⟩, by decide +kernel, by decide +kernel, by decide, by decide, fun h => absurd h (by decide)⟩
abbrev mX8_isAtom : MI := (8, yX8_isAtom, cX8_isAtom, 1, (some .boolean), 1, 1)
set_option maxRecDepth 100000 in
theorem oX8_isAtom : MOk mX8_isAtom := ⟨mem_g 888 (by decide +kernel) (by decide +kernel), fun _ => mem_g 887 (by decide +kernel) (by decide +kernel), fun h => absurd rfl h, fun h => absurd h (by decide), mem_g 75 (by decide +kernel) (by decide +kernel), rfl, ⟨by decide +kernel, by decide +kernel⟩, by decide +kernel, by decide +kernel, by decide, by decide, fun h => absurd h (by decide)⟩
abbrev mX8_wrong : MI := (8, yX8_wrong, cX8_wrong, 1, (some .boolean), 0, 0)
set_option maxRecDepth 100000 in
theorem oX8_wrong : MOk mX8_wrong := ⟨mem_g 907 (by decide +kernel) (by decide +kernel), fun h => absurd h (by decide), fun _ => mem_g 906 (by decide +kernel) (by decide +kernel), fun _ => mem_g 44 (by decide +kernel) (by decide +kernel), mem_g 75 (by decide +kernel) (by decide +kernel), rfl, ⟨by decide +kernel, by decide +kernel⟩, by decide +kernel, by decide +kernel, by decide, by decide, fun h => absurd h (by decide)⟩
abbrev mX8_adds : MI := (8, yX8_adds, cX8_adds, 4, (some .int), 2, 0)
set_option maxRecDepth 100000 in
theorem oX8_adds : MOk mX8_adds := ⟨mem_g 899 (by decide +kernel) (by decide +kernel), fun h => absurd h (by decide), fun _ => mem_g 898 (by decide +kernel) (by decide +kernel), fun _ => mem_g 42 (by decide +kernel) (by decide +kernel), mem_g 75 (by decide +kernel) (by decide +kernel), rfl, ⟨by decide +kernel, by decide +kernel⟩, by decide +kernel, by decide +kernel, by decide, by decide, fun h => absurd h (by decide)⟩
abbrev mX8_opens : MI := (8, yX8_opens, cX8_opens, 1, (some .boolean), 0, 0)
set_option maxRecDepth 100000 in
theorem oX8_opens : MOk mX8_opens := ⟨mem_g 903 (by decide +kernel) (by decide +kernel), fun h => absurd h (by decide), fun _ => mem_g 902 (by decide +kernel) (by decide +kernel), fun _ => mem_g 43 (by decide +kernel) (by decide +kernel), mem_g 75 (by decide +kernel) (by decide +kernel), rfl, ⟨by decide +kernel, by decide +kernel⟩, by decide +kernel, by decide +kernel, by decide, by decide, fun h => absurd h (by decide)⟩
abbrev mX8_lettered : MI := (8, yX8_lettered, cX8_lettered, 7, (some .boolean), 2, 0)
set_option maxRecDepth 100000 in
theorem oX8_lettered : MOk mX8_lettered := ⟨mem_g 911 (by decide +kernel) (by decide +kernel), fun h => absurd h (by decide), fun _ => mem_g 910 (by decide +kernel) (by decide +kernel), fun _ => mem_g 45 (by decide +kernel) (by decide +kernel), mem_g 75 (by decide +kernel) (by decide +kernel), rfl, ⟨by decide +kernel, by decide +kernel⟩, by decide +kernel, by decide +kernel, by decide, by decide, fun h => absurd h (by decide)⟩
abbrev mX8_piece : MI := (8, yX8_piece, cX8_piece, 5, (some .boolean), 2, 0)
set_option maxRecDepth 100000 in
theorem oX8_piece : MOk mX8_piece := ⟨mem_g 881 (by decide +kernel) (by decide +kernel), fun h => absurd h (by decide), fun _ => mem_g 880 (by decide +kernel) (by decide +kernel), fun _ => mem_g 39 (by decide +kernel) (by decide +kernel), mem_g 75 (by decide +kernel) (by decide +kernel), rfl, ⟨by decide +kernel, by decide +kernel⟩, by decide +kernel, by decide +kernel, by decide, by decide, fun h => absurd h (by decide)⟩
abbrev mX8_term : MI := (8, yX8_term, cX8_term, 3, (some .boolean), 1, 0)
set_option maxRecDepth 100000 in
theorem oX8_term : MOk mX8_term := ⟨mem_g 895 (by decide +kernel) (by decide +kernel), fun h => absurd h (by decide), fun _ => mem_g 894 (by decide +kernel) (by decide +kernel), fun _ => mem_g 41 (by decide +kernel) (by decide +kernel), mem_g 75 (by decide +kernel) (by decide +kernel), rfl, ⟨by decide +kernel, by decide +kernel⟩, by decide +kernel, by decide +kernel, by decide, by decide, fun h => absurd h (by decide)⟩
abbrev mX8_read : MI := (8, yX8_read, cX8_read, 7, (some .int), 5, 0)
set_option maxRecDepth 100000 in
theorem oX8_read : MOk mX8_read := ⟨mem_g 877 (by decide +kernel) (by decide +kernel), fun h => absurd h (by decide), fun _ => mem_g 876 (by decide +kernel) (by decide +kernel), fun _ => mem_g 38 (by decide +kernel) (by decide +kernel), mem_g 75 (by decide +kernel) (by decide +kernel), rfl, ⟨by decide +kernel, by decide +kernel⟩, by decide +kernel, by decide +kernel, by decide, by decide, fun h => absurd h (by decide)⟩
abbrev mX8_bytesIn : MI := (8, yX8_bytesIn, cX8_bytesIn, 3, (some .int), 1, 1)
set_option maxRecDepth 100000 in
theorem oX8_bytesIn : MOk mX8_bytesIn := ⟨mem_g 1040 (by decide +kernel) (by decide +kernel), fun _ => mem_g 1039 (by decide +kernel) (by decide +kernel), fun h => absurd rfl h, fun h => absurd h (by decide), mem_g 75 (by decide +kernel) (by decide +kernel), rfl, ⟨by decide +kernel, by decide +kernel⟩, by decide +kernel, by decide +kernel, by decide, by decide, fun h => absurd h (by decide)⟩
abbrev mX8_put4 : MI := (8, yX8_put4, cX8_put4, 3, none, 1, 0)
set_option maxRecDepth 100000 in
theorem oX8_put4 : MOk mX8_put4 := ⟨mem_g 1044 (by decide +kernel) (by decide +kernel), fun h => absurd h (by decide), fun _ => mem_g 1043 (by decide +kernel) (by decide +kernel), fun _ => mem_g 46 (by decide +kernel) (by decide +kernel), mem_g 75 (by decide +kernel) (by decide +kernel), rfl, ⟨by decide +kernel, by decide +kernel⟩, by decide +kernel, by decide +kernel, by decide, by decide, fun h => absurd h (by decide)⟩
abbrev mX8_feed : MI := (8, yX8_feed, cX8_feed, 6, (some .int), 5, 0)
set_option maxRecDepth 100000 in
theorem oX8_feed : MOk mX8_feed := ⟨mem_g 1037 (by decide +kernel) (by decide +kernel), fun h => absurd h (by decide), fun _ => mem_g 1035 (by decide +kernel) (by decide +kernel), fun _ => mem_g 1036 (by decide +kernel) (by decide +kernel), mem_g 75 (by decide +kernel) (by decide +kernel), rfl, ⟨by decide +kernel, by decide +kernel⟩, by decide +kernel, by decide +kernel, by decide, by decide, fun h => absurd h (by decide)⟩
abbrev mX8_end : MI := (8, yX8_end, cX8_end, 2, (some .boolean), 1, 0)
set_option maxRecDepth 100000 in
theorem oX8_end : MOk mX8_end := ⟨mem_g 1048 (by decide +kernel) (by decide +kernel), fun h => absurd h (by decide), fun _ => mem_g 1046 (by decide +kernel) (by decide +kernel), fun _ => mem_g 1047 (by decide +kernel) (by decide +kernel), mem_g 75 (by decide +kernel) (by decide +kernel), rfl, ⟨by decide +kernel, by decide +kernel⟩, by decide +kernel, by decide +kernel, by decide, by decide, fun h => absurd h (by decide)⟩
abbrev mX8_fault : MI := (8, yX8_fault, cX8_fault, 2, (some .int), 1, 0)
set_option maxRecDepth 100000 in
theorem oX8_fault : MOk mX8_fault := ⟨mem_g 870 (by decide +kernel) (by decide +kernel), fun h => absurd h (by decide), fun _ => mem_g 868 (by decide +kernel) (by decide +kernel), fun _ => mem_g 869 (by decide +kernel) (by decide +kernel), mem_g 75 (by decide +kernel) (by decide +kernel), rfl, ⟨by decide +kernel, by decide +kernel⟩, by decide +kernel, by decide +kernel, by decide, by decide, fun h => absurd h (by decide)⟩
abbrev mX8_take : MI := (8, yX8_take, cX8_take, 4, (some .boolean), 1, 0)
set_option maxRecDepth 100000 in
theorem oX8_take : MOk mX8_take := ⟨mem_g 866 (by decide +kernel) (by decide +kernel), fun h => absurd h (by decide), fun _ => mem_g 864 (by decide +kernel) (by decide +kernel), fun _ => mem_g 865 (by decide +kernel) (by decide +kernel), mem_g 75 (by decide +kernel) (by decide +kernel), rfl, ⟨by decide +kernel, by decide +kernel⟩, by decide +kernel, by decide +kernel, by decide, by decide, fun h => absurd h (by decide)⟩
abbrev mX8_differ : MI := (8, yX8_differ, cX8_differ, 4, (some .boolean), 3, 0)
set_option maxRecDepth 100000 in
theorem oX8_differ : MOk mX8_differ := ⟨mem_g 1054 (by decide +kernel) (by decide +kernel), fun h => absurd h (by decide), fun _ => mem_g 1052 (by decide +kernel) (by decide +kernel), fun _ => mem_g 1053 (by decide +kernel) (by decide +kernel), mem_g 75 (by decide +kernel) (by decide +kernel), rfl, ⟨by decide +kernel, by decide +kernel⟩, by decide +kernel, by decide +kernel, by decide, by decide, fun h => absurd h (by decide)⟩
abbrev mX8_isNode : MI := (8, yX8_isNode, cX8_isNode, 2, (some .boolean), 1, 0)
set_option maxRecDepth 100000 in
theorem oX8_isNode : MOk mX8_isNode := ⟨mem_g 1066 (by decide +kernel) (by decide +kernel), fun h => absurd h (by decide), fun _ => mem_g 1065 (by decide +kernel) (by decide +kernel), fun _ => mem_g 47 (by decide +kernel) (by decide +kernel), mem_g 75 (by decide +kernel) (by decide +kernel), rfl, ⟨by decide +kernel, by decide +kernel⟩, by decide +kernel, by decide +kernel, by decide, by decide, fun h => absurd h (by decide)⟩
abbrev mX8_nodes : MI := (8, yX8_nodes, cX8_nodes, 1, (some .int), 0, 0)
set_option maxRecDepth 100000 in
theorem oX8_nodes : MOk mX8_nodes := ⟨mem_g 1058 (by decide +kernel) (by decide +kernel), fun h => absurd h (by decide), fun _ => mem_g 1056 (by decide +kernel) (by decide +kernel), fun _ => mem_g 1057 (by decide +kernel) (by decide +kernel), mem_g 75 (by decide +kernel) (by decide +kernel), rfl, ⟨by decide +kernel, by decide +kernel⟩, by decide +kernel, by decide +kernel, by decide, by decide, fun h => absurd h (by decide)⟩
abbrev mX8_isAtomAlike : MI := (8, yX8_isAtomAlike, cX8_isAtomAlike, 8, (some .boolean), 4, 0)
set_option maxRecDepth 100000 in
theorem oX8_isAtomAlike : MOk mX8_isAtomAlike := ⟨mem_g 1074 (by decide +kernel) (by decide +kernel), fun h => absurd h (by decide), fun _ => mem_g 1073 (by decide +kernel) (by decide +kernel), fun _ => mem_g 49 (by decide +kernel) (by decide +kernel), mem_g 75 (by decide +kernel) (by decide +kernel), rfl, ⟨by decide +kernel, by decide +kernel⟩, by decide +kernel, by decide +kernel, by decide, by decide, fun h => absurd h (by decide)⟩
abbrev mX8_areAlike : MI := (8, yX8_areAlike, cX8_areAlike, 5, (some .boolean), 2, 0)
set_option maxRecDepth 100000 in
theorem oX8_areAlike : MOk mX8_areAlike := ⟨mem_g 1070 (by decide +kernel) (by decide +kernel), fun h => absurd h (by decide), fun _ => mem_g 1069 (by decide +kernel) (by decide +kernel), fun _ => mem_g 48 (by decide +kernel) (by decide +kernel), mem_g 75 (by decide +kernel) (by decide +kernel), rfl, ⟨by decide +kernel, by decide +kernel⟩, by decide +kernel, by decide +kernel, by decide, by decide, fun h => absurd h (by decide)⟩
abbrev mX8_alike : MI := (8, yX8_alike, cX8_alike, 3, (some .boolean), 2, 0)
set_option maxRecDepth 100000 in
theorem oX8_alike : MOk mX8_alike := ⟨mem_g 1062 (by decide +kernel) (by decide +kernel), fun h => absurd h (by decide), fun _ => mem_g 1060 (by decide +kernel) (by decide +kernel), fun _ => mem_g 1061 (by decide +kernel) (by decide +kernel), mem_g 75 (by decide +kernel) (by decide +kernel), rfl, ⟨by decide +kernel, by decide +kernel⟩, by decide +kernel, by decide +kernel, by decide, by decide, fun h => absurd h (by decide)⟩
abbrev mX8_isWithin : MI := (8, yX8_isWithin, cX8_isWithin, 4, (some .boolean), 2, 0)
set_option maxRecDepth 100000 in
theorem oX8_isWithin : MOk mX8_isWithin := ⟨mem_g 1110 (by decide +kernel) (by decide +kernel), fun h => absurd h (by decide), fun _ => mem_g 1109 (by decide +kernel) (by decide +kernel), fun _ => mem_g 56 (by decide +kernel) (by decide +kernel), mem_g 75 (by decide +kernel) (by decide +kernel), rfl, ⟨by decide +kernel, by decide +kernel⟩, by decide +kernel, by decide +kernel, by decide, by decide, fun h => absurd h (by decide)⟩
abbrev mX8_task : MI := (8, yX8_task, cX8_task, 7, (some .int), 5, 0)
set_option maxRecDepth 100000 in
theorem oX8_task : MOk mX8_task := ⟨mem_g 1094 (by decide +kernel) (by decide +kernel), fun h => absurd h (by decide), fun _ => mem_g 1093 (by decide +kernel) (by decide +kernel), fun _ => mem_g 52 (by decide +kernel) (by decide +kernel), mem_g 75 (by decide +kernel) (by decide +kernel), rfl, ⟨by decide +kernel, by decide +kernel⟩, by decide +kernel, by decide +kernel, by decide, by decide, fun h => absurd h (by decide)⟩
abbrev mX8_differAll : MI := (8, yX8_differAll, cX8_differAll, 3, (some .boolean), 0, 0)
set_option maxRecDepth 100000 in
theorem oX8_differAll : MOk mX8_differAll := ⟨mem_g 1102 (by decide +kernel) (by decide +kernel), fun h => absurd h (by decide), fun _ => mem_g 1101 (by decide +kernel) (by decide +kernel), fun _ => mem_g 54 (by decide +kernel) (by decide +kernel), mem_g 75 (by decide +kernel) (by decide +kernel), rfl, ⟨by decide +kernel, by decide +kernel⟩, by decide +kernel, by decide +kernel, by decide, by decide, fun h => absurd h (by decide)⟩
abbrev mX8_does : MI := (8, yX8_does, cX8_does, 4, (some .boolean), 1, 0)
set_option maxRecDepth 100000 in
theorem oX8_does : MOk mX8_does := ⟨mem_g 1098 (by decide +kernel) (by decide +kernel), fun h => absurd h (by decide), fun _ => mem_g 1097 (by decide +kernel) (by decide +kernel), fun _ => mem_g 53 (by decide +kernel) (by decide +kernel), mem_g 75 (by decide +kernel) (by decide +kernel), rfl, ⟨by decide +kernel, by decide +kernel⟩, by decide +kernel, by decide +kernel, by decide, by decide, fun h => absurd h (by decide)⟩
abbrev mX8_whole : MI := (8, yX8_whole, cX8_whole, 5, (some .boolean), 3, 0)
set_option maxRecDepth 100000 in
theorem oX8_whole : MOk mX8_whole := ⟨mem_g 1106 (by decide +kernel) (by decide +kernel), fun h => absurd h (by decide), fun _ => mem_g 1105 (by decide +kernel) (by decide +kernel), fun _ => mem_g 55 (by decide +kernel) (by decide +kernel), mem_g 75 (by decide +kernel) (by decide +kernel), rfl, ⟨by decide +kernel, by decide +kernel⟩, by decide +kernel, by decide +kernel, by decide, by decide, fun h => absurd h (by decide)⟩
abbrev mX8_isRowAlike : MI := (8, yX8_isRowAlike, cX8_isRowAlike, 7, (some .boolean), 4, 0)
set_option maxRecDepth 100000 in
theorem oX8_isRowAlike : MOk mX8_isRowAlike := ⟨mem_g 1118 (by decide +kernel) (by decide +kernel), fun h => absurd h (by decide), fun _ => mem_g 1117 (by decide +kernel) (by decide +kernel), fun _ => mem_g 58 (by decide +kernel) (by decide +kernel), mem_g 75 (by decide +kernel) (by decide +kernel), rfl, ⟨by decide +kernel, by decide +kernel⟩, by decide +kernel, by decide +kernel, by decide, by decide, fun h => absurd h (by decide)⟩
abbrev mX8_some : MI := (8, yX8_some, cX8_some, 11, (some .boolean), 1, 0)
set_option maxRecDepth 100000 in
theorem oX8_some : MOk mX8_some := ⟨mem_g 1114 (by decide +kernel) (by decide +kernel), fun h => absurd h (by decide), fun _ => mem_g 1113 (by decide +kernel) (by decide +kernel), fun _ => mem_g 57 (by decide +kernel) (by decide +kernel), mem_g 75 (by decide +kernel) (by decide +kernel), rfl, ⟨by decide +kernel, by decide +kernel⟩, by decide +kernel, by decide +kernel, by decide, by decide, fun h => absurd h (by decide)⟩
abbrev mX8_isMatched : MI := (8, yX8_isMatched, cX8_isMatched, 3, (some .boolean), 1, 0)
set_option maxRecDepth 100000 in
theorem oX8_isMatched : MOk mX8_isMatched := ⟨mem_g 1090 (by decide +kernel) (by decide +kernel), fun h => absurd h (by decide), fun _ => mem_g 1089 (by decide +kernel) (by decide +kernel), fun _ => mem_g 51 (by decide +kernel) (by decide +kernel), mem_g 75 (by decide +kernel) (by decide +kernel), rfl, ⟨by decide +kernel, by decide +kernel⟩, by decide +kernel, by decide +kernel, by decide, by decide, fun h => absurd h (by decide)⟩
abbrev mX8_all : MI := (8, yX8_all, cX8_all, 3, (some .int), 0, 0)
set_option maxRecDepth 100000 in
theorem oX8_all : MOk mX8_all := ⟨mem_g 1086 (by decide +kernel) (by decide +kernel), fun h => absurd h (by decide), fun _ => mem_g 1085 (by decide +kernel) (by decide +kernel), fun _ => mem_g 50 (by decide +kernel) (by decide +kernel), mem_g 75 (by decide +kernel) (by decide +kernel), rfl, ⟨by decide +kernel, by decide +kernel⟩, by decide +kernel, by decide +kernel, by decide, by decide, fun h => absurd h (by decide)⟩
abbrev mX8_matches : MI := (8, yX8_matches, cX8_matches, 1, (some .int), 0, 0)
set_option maxRecDepth 100000 in
theorem oX8_matches : MOk mX8_matches := ⟨mem_g 1082 (by decide +kernel) (by decide +kernel), fun h => absurd h (by decide), fun _ => mem_g 1080 (by decide +kernel) (by decide +kernel), fun _ => mem_g 1081 (by decide +kernel) (by decide +kernel), mem_g 75 (by decide +kernel) (by decide +kernel), rfl, ⟨by decide +kernel, by decide +kernel⟩, by decide +kernel, by decide +kernel, by decide, by decide, fun h => absurd h (by decide)⟩
abbrev mX8_match : MI := (8, yX8_match, cX8_match, 5, (some .int), 1, 0)
set_option maxRecDepth 100000 in
theorem oX8_match : MOk mX8_match := ⟨mem_g 1122 (by decide +kernel) (by decide +kernel), fun h => absurd h (by decide), fun _ => mem_g 1120 (by decide +kernel) (by decide +kernel), fun _ => mem_g 1121 (by decide +kernel) (by decide +kernel), mem_g 75 (by decide +kernel) (by decide +kernel), rfl, ⟨by decide +kernel, by decide +kernel⟩, by decide +kernel, by decide +kernel, by decide, by decide, fun h => absurd h (by decide)⟩
abbrev mX8_kindOf : MI := (8, yX8_kindOf, cX8_kindOf, 4, (some .int), 2, 0)
set_option maxRecDepth 100000 in
theorem oX8_kindOf : MOk mX8_kindOf := ⟨mem_g 1130 (by decide +kernel) (by decide +kernel), fun h => absurd h (by decide), fun _ => mem_g 1129 (by decide +kernel) (by decide +kernel), fun _ => mem_g 59 (by decide +kernel) (by decide +kernel), mem_g 75 (by decide +kernel) (by decide +kernel), rfl, ⟨by decide +kernel, by decide +kernel⟩, by decide +kernel, by decide +kernel, by decide, by decide, fun h => absurd h (by decide)⟩
abbrev mX8_hole : MI := (8, yX8_hole, cX8_hole, 3, (some .int), 2, 0)
set_option maxRecDepth 100000 in
theorem oX8_hole : MOk mX8_hole := ⟨mem_g 1126 (by decide +kernel) (by decide +kernel), fun h => absurd h (by decide), fun _ => mem_g 1124 (by decide +kernel) (by decide +kernel), fun _ => mem_g 1125 (by decide +kernel) (by decide +kernel), mem_g 75 (by decide +kernel) (by decide +kernel), rfl, ⟨by decide +kernel, by decide +kernel⟩, by decide +kernel, by decide +kernel, by decide, by decide, fun h => absurd h (by decide)⟩
abbrev mX8_row : MI := (8, yX8_row, cX8_row, 3, (some .int), 2, 0)
set_option maxRecDepth 100000 in
theorem oX8_row : MOk mX8_row := ⟨mem_g 1134 (by decide +kernel) (by decide +kernel), fun h => absurd h (by decide), fun _ => mem_g 1132 (by decide +kernel) (by decide +kernel), fun _ => mem_g 1133 (by decide +kernel) (by decide +kernel), mem_g 75 (by decide +kernel) (by decide +kernel), rfl, ⟨by decide +kernel, by decide +kernel⟩, by decide +kernel, by decide +kernel, by decide, by decide, fun h => absurd h (by decide)⟩
abbrev mX8_takeBy : MI := (8, yX8_takeBy, cX8_takeBy, 6, (some .int), 1, 0)
set_option maxRecDepth 100000 in
theorem oX8_takeBy : MOk mX8_takeBy := ⟨mem_g 1142 (by decide +kernel) (by decide +kernel), fun h => absurd h (by decide), fun _ => mem_g 1141 (by decide +kernel) (by decide +kernel), fun _ => mem_g 60 (by decide +kernel) (by decide +kernel), mem_g 75 (by decide +kernel) (by decide +kernel), rfl, ⟨by decide +kernel, by decide +kernel⟩, by decide +kernel, by decide +kernel, by decide, by decide, fun h => absurd h (by decide)⟩
abbrev mX8_taken : MI := (8, yX8_taken, cX8_taken, 2, (some .int), 1, 0)
set_option maxRecDepth 100000 in
theorem oX8_taken : MOk mX8_taken := ⟨mem_g 1138 (by decide +kernel) (by decide +kernel), fun h => absurd h (by decide), fun _ => mem_g 1136 (by decide +kernel) (by decide +kernel), fun _ => mem_g 1137 (by decide +kernel) (by decide +kernel), mem_g 75 (by decide +kernel) (by decide +kernel), rfl, ⟨by decide +kernel, by decide +kernel⟩, by decide +kernel, by decide +kernel, by decide, by decide, fun h => absurd h (by decide)⟩
abbrev mX8_takes : MI := (8, yX8_takes, cX8_takes, 6, (some .int), 2, 0)
set_option maxRecDepth 100000 in
theorem oX8_takes : MOk mX8_takes := ⟨mem_g 1146 (by decide +kernel) (by decide +kernel), fun h => absurd h (by decide), fun _ => mem_g 1144 (by decide +kernel) (by decide +kernel), fun _ => mem_g 1145 (by decide +kernel) (by decide +kernel), mem_g 75 (by decide +kernel) (by decide +kernel), rfl, ⟨by decide +kernel, by decide +kernel⟩, by decide +kernel, by decide +kernel, by decide, by decide, fun h => absurd h (by decide)⟩
abbrev mX8_copy : MI := (8, yX8_copy, cX8_copy, 5, none, 3, 0)
set_option maxRecDepth 100000 in
theorem oX8_copy : MOk mX8_copy := ⟨mem_g 1158 (by decide +kernel) (by decide +kernel), fun h => absurd h (by decide), fun _ => mem_g 1157 (by decide +kernel) (by decide +kernel), fun _ => mem_g 62 (by decide +kernel) (by decide +kernel), mem_g 75 (by decide +kernel) (by decide +kernel), rfl, ⟨by decide +kernel, by decide +kernel⟩, by decide +kernel, by decide +kernel, by decide, by decide, fun h => absurd h (by decide)⟩
abbrev mX8_strike : MI := (8, yX8_strike, cX8_strike, 7, none, 0, 0)
set_option maxRecDepth 100000 in
theorem oX8_strike : MOk mX8_strike := ⟨mem_g 1166 (by decide +kernel) (by decide +kernel), fun h => absurd h (by decide), fun _ => mem_g 1165 (by decide +kernel) (by decide +kernel), fun _ => mem_g 64 (by decide +kernel) (by decide +kernel), mem_g 75 (by decide +kernel) (by decide +kernel), rfl, ⟨by decide +kernel, by decide +kernel⟩, by decide +kernel, by decide +kernel, by decide, by decide, fun h => absurd h (by decide)⟩
abbrev mX8_write : MI := (8, yX8_write, cX8_write, 4, none, 0, 0)
set_option maxRecDepth 100000 in
theorem oX8_write : MOk mX8_write := ⟨mem_g 1162 (by decide +kernel) (by decide +kernel), fun h => absurd h (by decide), fun _ => mem_g 1161 (by decide +kernel) (by decide +kernel), fun _ => mem_g 63 (by decide +kernel) (by decide +kernel), mem_g 75 (by decide +kernel) (by decide +kernel), rfl, ⟨by decide +kernel, by decide +kernel⟩, by decide +kernel, by decide +kernel, by decide, by decide, fun h => absurd h (by decide)⟩
abbrev mX8_puts : MI := (8, yX8_puts, cX8_puts, 6, (some .int), 1, 0)
set_option maxRecDepth 100000 in
theorem oX8_puts : MOk mX8_puts := ⟨mem_g 1154 (by decide +kernel) (by decide +kernel), fun h => absurd h (by decide), fun _ => mem_g 1153 (by decide +kernel) (by decide +kernel), fun _ => mem_g 61 (by decide +kernel) (by decide +kernel), mem_g 75 (by decide +kernel) (by decide +kernel), rfl, ⟨by decide +kernel, by decide +kernel⟩, by decide +kernel, by decide +kernel, by decide, by decide, fun h => absurd h (by decide)⟩
abbrev mX8_keep : MI := (8, yX8_keep, cX8_keep, 3, none, 1, 0)
set_option maxRecDepth 100000 in
theorem oX8_keep : MOk mX8_keep := ⟨mem_g 1170 (by decide +kernel) (by decide +kernel), fun h => absurd h (by decide), fun _ => mem_g 1169 (by decide +kernel) (by decide +kernel), fun _ => mem_g 65 (by decide +kernel) (by decide +kernel), mem_g 75 (by decide +kernel) (by decide +kernel), rfl, ⟨by decide +kernel, by decide +kernel⟩, by decide +kernel, by decide +kernel, by decide, by decide, fun h => absurd h (by decide)⟩
abbrev mX8_put : MI := (8, yX8_put, cX8_put, 4, (some .int), 1, 0)
set_option maxRecDepth 100000 in
theorem oX8_put : MOk mX8_put := ⟨mem_g 1150 (by decide +kernel) (by decide +kernel), fun h => absurd h (by decide), fun _ => mem_g 1148 (by decide +kernel) (by decide +kernel), fun _ => mem_g 1149 (by decide +kernel) (by decide +kernel), mem_g 75 (by decide +kernel) (by decide +kernel), rfl, ⟨by decide +kernel, by decide +kernel⟩, by decide +kernel, by decide +kernel, by decide, by decide, fun h => absurd h (by decide)⟩
abbrev mX8_putAll : MI := (8, yX8_putAll, cX8_putAll, 5, (some .int), 1, 0)
set_option maxRecDepth 100000 in
theorem oX8_putAll : MOk mX8_putAll := ⟨mem_g 1174 (by decide +kernel) (by decide +kernel), fun h => absurd h (by decide), fun _ => mem_g 1172 (by decide +kernel) (by decide +kernel), fun _ => mem_g 1173 (by decide +kernel) (by decide +kernel), mem_g 75 (by decide +kernel) (by decide +kernel), rfl, ⟨by decide +kernel, by decide +kernel⟩, by decide +kernel, by decide +kernel, by decide, by decide, fun h => absurd h (by decide)⟩
abbrev mX8_back : MI := (8, yX8_back, cX8_back, 2, (some .boolean), 0, 0)
set_option maxRecDepth 100000 in
theorem oX8_back : MOk mX8_back := ⟨mem_g 1178 (by decide +kernel) (by decide +kernel), fun h => absurd h (by decide), fun _ => mem_g 1176 (by decide +kernel) (by decide +kernel), fun _ => mem_g 1177 (by decide +kernel) (by decide +kernel), mem_g 75 (by decide +kernel) (by decide +kernel), rfl, ⟨by decide +kernel, by decide +kernel⟩, by decide +kernel, by decide +kernel, by decide, by decide, fun h => absurd h (by decide)⟩
abbrev mX8_node : MI := (8, yX8_node, cX8_node, 3, (some .int), 2, 0)
set_option maxRecDepth 100000 in
theorem oX8_node : MOk mX8_node := ⟨mem_g 1182 (by decide +kernel) (by decide +kernel), fun h => absurd h (by decide), fun _ => mem_g 1180 (by decide +kernel) (by decide +kernel), fun _ => mem_g 1181 (by decide +kernel) (by decide +kernel), mem_g 75 (by decide +kernel) (by decide +kernel), rfl, ⟨by decide +kernel, by decide +kernel⟩, by decide +kernel, by decide +kernel, by decide, by decide, fun h => absurd h (by decide)⟩
abbrev mX8_at : MI := (8, yX8_at, cX8_at, 2, (some .int), 1, 0)
set_option maxRecDepth 100000 in
theorem oX8_at : MOk mX8_at := ⟨mem_g 1186 (by decide +kernel) (by decide +kernel), fun h => absurd h (by decide), fun _ => mem_g 1184 (by decide +kernel) (by decide +kernel), fun _ => mem_g 1185 (by decide +kernel) (by decide +kernel), mem_g 75 (by decide +kernel) (by decide +kernel), rfl, ⟨by decide +kernel, by decide +kernel⟩, by decide +kernel, by decide +kernel, by decide, by decide, fun h => absurd h (by decide)⟩
abbrev mX8_count : MI := (8, yX8_count, cX8_count, 2, (some .int), 1, 0)
set_option maxRecDepth 100000 in
theorem oX8_count : MOk mX8_count := ⟨mem_g 1190 (by decide +kernel) (by decide +kernel), fun h => absurd h (by decide), fun _ => mem_g 1188 (by decide +kernel) (by decide +kernel), fun _ => mem_g 1189 (by decide +kernel) (by decide +kernel), mem_g 75 (by decide +kernel) (by decide +kernel), rfl, ⟨by decide +kernel, by decide +kernel⟩, by decide +kernel, by decide +kernel, by decide, by decide, fun h => absurd h (by decide)⟩
set_option maxRecDepth 100000 in
theorem cO_9_15 : COk 9 15 mX6_init := Or.inl (mem_g 84 (by decide +kernel) (by decide +kernel))
set_option maxRecDepth 100000 in
theorem cO_6_38 : COk 6 38 mX1_init := Or.inl (mem_g 210 (by decide +kernel) (by decide +kernel))
set_option maxRecDepth 100000 in
theorem cO_6_47 : COk 6 47 mX0_init := Or.inl (mem_g 267 (by decide +kernel) (by decide +kernel))
set_option maxRecDepth 100000 in
theorem cO_6_56 : COk 6 56 mX3_init := Or.inl (mem_g 293 (by decide +kernel) (by decide +kernel))
set_option maxRecDepth 100000 in
theorem cO_6_70 : COk 6 70 mX5_load := Or.inl (mem_g 332 (by decide +kernel) (by decide +kernel))
set_option maxRecDepth 100000 in
theorem cO_5_49 : COk 5 49 mX5_append := Or.inl (mem_g 336 (by decide +kernel) (by decide +kernel))
set_option maxRecDepth 100000 in
theorem cO_6_74 : COk 6 74 mX4_readTree := Or.inl (mem_g 343 (by decide +kernel) (by decide +kernel))
set_option maxRecDepth 100000 in
theorem cO_4_9 : COk 4 9 mX4_start := Or.inl (mem_g 347 (by decide +kernel) (by decide +kernel))
set_option maxRecDepth 100000 in
theorem cO_4_21 : COk 4 21 mX4_skipBlanks := Or.inl (mem_g 351 (by decide +kernel) (by decide +kernel))
set_option maxRecDepth 100000 in
theorem cO_4_38 : COk 4 38 mX4_readToken := Or.inl (mem_g 358 (by decide +kernel) (by decide +kernel))
set_option maxRecDepth 100000 in
theorem cO_4_68 : COk 4 68 mX4_readPiece := Or.inl (mem_g 362 (by decide +kernel) (by decide +kernel))
set_option maxRecDepth 100000 in
theorem cO_4_84 : COk 4 84 mX4_readAtom := Or.inl (mem_g 369 (by decide +kernel) (by decide +kernel))
set_option maxRecDepth 100000 in
theorem cO_4_102 : COk 4 102 mX4_addPiece := Or.inl (mem_g 373 (by decide +kernel) (by decide +kernel))
set_option maxRecDepth 100000 in
theorem cO_4_87 : COk 4 87 mX4_readLettered := Or.inl (mem_g 377 (by decide +kernel) (by decide +kernel))
set_option maxRecDepth 100000 in
theorem cO_4_109 : COk 4 109 mX5_kindOf := Or.inl (mem_g 384 (by decide +kernel) (by decide +kernel))
set_option maxRecDepth 100000 in
theorem cO_4_90 : COk 4 90 mX4_rowMayStand := Or.inl (mem_g 388 (by decide +kernel) (by decide +kernel))
set_option maxRecDepth 100000 in
theorem cO_4_96 : COk 4 96 mX4_isWithinTerm := Or.inl (mem_g 392 (by decide +kernel) (by decide +kernel))
set_option maxRecDepth 100000 in
theorem cO_4_93 : COk 4 93 mX4_readDeep := Or.inl (mem_g 396 (by decide +kernel) (by decide +kernel))
set_option maxRecDepth 100000 in
theorem cO_4_71 : COk 4 71 mX4_readClosing := Or.inl (mem_g 400 (by decide +kernel) (by decide +kernel))
set_option maxRecDepth 100000 in
theorem cO_4_75 : COk 4 75 mX4_readOpening := Or.inl (mem_g 404 (by decide +kernel) (by decide +kernel))
set_option maxRecDepth 100000 in
theorem cO_4_78 : COk 4 78 mX4_readBehindPiece := Or.inl (mem_g 408 (by decide +kernel) (by decide +kernel))
set_option maxRecDepth 100000 in
theorem cO_6_78 : COk 6 78 mX6_adoptSpare := Or.inl (mem_g 412 (by decide +kernel) (by decide +kernel))
set_option maxRecDepth 100000 in
theorem cO_6_205 : COk 6 205 mX5_copyOf := Or.inl (mem_g 416 (by decide +kernel) (by decide +kernel))
set_option maxRecDepth 100000 in
theorem cO_6_208 : COk 6 208 mX5_markAlike := Or.inl (mem_g 420 (by decide +kernel) (by decide +kernel))
set_option maxRecDepth 100000 in
theorem cO_5_66 : COk 5 66 mX5_looksAlike := Or.inl (mem_g 424 (by decide +kernel) (by decide +kernel))
set_option maxRecDepth 100000 in
theorem cO_5_70 : COk 5 70 mX5_sameAtom := Or.inl (mem_g 428 (by decide +kernel) (by decide +kernel))
set_option maxRecDepth 100000 in
theorem cO_5_62 : COk 5 62 mX5_next := Or.inl (mem_g 431 (by decide +kernel) (by decide +kernel))
set_option maxRecDepth 100000 in
theorem cO_6_211 : COk 6 211 mX1_preparePattern := Or.inl (mem_g 435 (by decide +kernel) (by decide +kernel))
set_option maxRecDepth 100000 in
theorem cO_1_73 : COk 1 73 mX1_countSingles := Or.inl (mem_g 439 (by decide +kernel) (by decide +kernel))
set_option maxRecDepth 100000 in
theorem cO_6_214 : COk 6 214 mX1_forgetMatched := Or.inl (mem_g 443 (by decide +kernel) (by decide +kernel))
set_option maxRecDepth 100000 in
theorem cO_9_19 : COk 9 19 mX6_feed := Or.inl (mem_g 481 (by decide +kernel) (by decide +kernel))
set_option maxRecDepth 100000 in
theorem cO_6_86 : COk 6 86 mX6_writeFed := Or.inl (mem_g 485 (by decide +kernel) (by decide +kernel))
set_option maxRecDepth 100000 in
theorem cO_9_24 : COk 9 24 mX6_end := Or.inl (mem_g 489 (by decide +kernel) (by decide +kernel))
set_option maxRecDepth 100000 in
theorem cO_9_29 : COk 9 29 mX6_fault := Or.inl (mem_g 493 (by decide +kernel) (by decide +kernel))
set_option maxRecDepth 100000 in
theorem cO_6_90 : COk 6 90 mX6_readTape := Or.inl (mem_g 497 (by decide +kernel) (by decide +kernel))
set_option maxRecDepth 100000 in
theorem cO_9_33 : COk 9 33 mX6_take := Or.inl (mem_g 501 (by decide +kernel) (by decide +kernel))
set_option maxRecDepth 100000 in
theorem cO_6_94 : COk 6 94 mX2_forget := Or.inl (mem_g 505 (by decide +kernel) (by decide +kernel))
set_option maxRecDepth 100000 in
theorem cO_6_97 : COk 6 97 mX1_forgetDifferences := Or.inl (mem_g 509 (by decide +kernel) (by decide +kernel))
set_option maxRecDepth 100000 in
theorem cO_9_37 : COk 9 37 mX6_differ := Or.inl (mem_g 513 (by decide +kernel) (by decide +kernel))
set_option maxRecDepth 100000 in
theorem cO_6_100 : COk 6 100 mX6_isLetter := Or.inl (mem_g 517 (by decide +kernel) (by decide +kernel))
set_option maxRecDepth 100000 in
theorem cO_6_104 : COk 6 104 mX1_mustDiffer := Or.inl (mem_g 520 (by decide +kernel) (by decide +kernel))
set_option maxRecDepth 100000 in
theorem cO_6_108 : COk 6 108 mX1_setDiffer := Or.inl (mem_g 524 (by decide +kernel) (by decide +kernel))
set_option maxRecDepth 100000 in
theorem cO_9_42 : COk 9 42 mX6_nodes := Or.inl (mem_g 528 (by decide +kernel) (by decide +kernel))
set_option maxRecDepth 100000 in
theorem cO_9_47 : COk 9 47 mX6_node := Or.inl (mem_g 532 (by decide +kernel) (by decide +kernel))
set_option maxRecDepth 100000 in
theorem cO_6_115 : COk 6 115 mX6_isNode := Or.inl (mem_g 536 (by decide +kernel) (by decide +kernel))
set_option maxRecDepth 100000 in
theorem cO_9_52 : COk 9 52 mX6_alike := Or.inl (mem_g 543 (by decide +kernel) (by decide +kernel))
set_option maxRecDepth 100000 in
theorem cO_9_57 : COk 9 57 mX6_matches := Or.inl (mem_g 547 (by decide +kernel) (by decide +kernel))
set_option maxRecDepth 100000 in
theorem cO_6_138 : COk 6 138 mX1_countMatched := Or.inl (mem_g 551 (by decide +kernel) (by decide +kernel))
set_option maxRecDepth 100000 in
theorem cO_1_48 : COk 1 48 mX1_findAll := Or.inl (mem_g 555 (by decide +kernel) (by decide +kernel))
set_option maxRecDepth 100000 in
theorem cO_1_63 : COk 1 63 mX1_findWay := Or.inl (mem_g 559 (by decide +kernel) (by decide +kernel))
set_option maxRecDepth 100000 in
theorem cO_1_98 : COk 1 98 mX1_firstFailing := Or.inl (mem_g 567 (by decide +kernel) (by decide +kernel))
set_option maxRecDepth 100000 in
theorem cO_1_101 : COk 1 101 mX1_rowFits := Or.inl (mem_g 571 (by decide +kernel) (by decide +kernel))
set_option maxRecDepth 100000 in
theorem cO_1_136 : COk 1 136 mX5_next := Or.inl (mem_g 575 (by decide +kernel) (by decide +kernel))
set_option maxRecDepth 100000 in
theorem cO_1_139 : COk 1 139 mX1_rowsAlike := Or.inl (mem_g 576 (by decide +kernel) (by decide +kernel))
set_option maxRecDepth 100000 in
theorem cO_1_104 : COk 1 104 mX1_seatPiece := Or.inl (mem_g 580 (by decide +kernel) (by decide +kernel))
set_option maxRecDepth 100000 in
theorem cO_1_117 : COk 1 117 mX1_nextNode := Or.inl (mem_g 584 (by decide +kernel) (by decide +kernel))
set_option maxRecDepth 100000 in
theorem cO_1_108 : COk 1 108 mX1_termFits := Or.inl (mem_g 588 (by decide +kernel) (by decide +kernel))
set_option maxRecDepth 100000 in
theorem cO_1_123 : COk 1 123 mX5_sameAtom := Or.inl (mem_g 592 (by decide +kernel) (by decide +kernel))
set_option maxRecDepth 100000 in
theorem cO_1_111 : COk 1 111 mX1_holeFits := Or.inl (mem_g 593 (by decide +kernel) (by decide +kernel))
set_option maxRecDepth 100000 in
theorem cO_1_133 : COk 1 133 mX1_mustDiffer := Or.inl (mem_g 597 (by decide +kernel) (by decide +kernel))
set_option maxRecDepth 100000 in
theorem cO_9_61 : COk 9 61 mX6_match := Or.inl (mem_g 598 (by decide +kernel) (by decide +kernel))
set_option maxRecDepth 100000 in
theorem cO_6_142 : COk 6 142 mX1_matchedAt := Or.inl (mem_g 602 (by decide +kernel) (by decide +kernel))
set_option maxRecDepth 100000 in
theorem cO_9_65 : COk 9 65 mX6_hole := Or.inl (mem_g 606 (by decide +kernel) (by decide +kernel))
set_option maxRecDepth 100000 in
theorem cO_6_145 : COk 6 145 mX6_isBound := Or.inl (mem_g 610 (by decide +kernel) (by decide +kernel))
set_option maxRecDepth 100000 in
theorem cO_6_224 : COk 6 224 mX5_kindOf := Or.inl (mem_g 614 (by decide +kernel) (by decide +kernel))
set_option maxRecDepth 100000 in
theorem cO_6_227 : COk 6 227 mX1_findWay := Or.inl (mem_g 615 (by decide +kernel) (by decide +kernel))
set_option maxRecDepth 100000 in
theorem cO_6_148 : COk 6 148 mX1_firstNode := Or.inl (mem_g 616 (by decide +kernel) (by decide +kernel))
set_option maxRecDepth 100000 in
theorem cO_9_69 : COk 9 69 mX6_row := Or.inl (mem_g 620 (by decide +kernel) (by decide +kernel))
set_option maxRecDepth 100000 in
theorem cO_6_151 : COk 6 151 mX1_howMany := Or.inl (mem_g 624 (by decide +kernel) (by decide +kernel))
set_option maxRecDepth 100000 in
theorem cO_9_73 : COk 9 73 mX6_taken := Or.inl (mem_g 628 (by decide +kernel) (by decide +kernel))
set_option maxRecDepth 100000 in
theorem cO_6_154 : COk 6 154 mX6_isRule := Or.inl (mem_g 632 (by decide +kernel) (by decide +kernel))
set_option maxRecDepth 100000 in
theorem cO_6_157 : COk 6 157 mX1_findAll := Or.inl (mem_g 635 (by decide +kernel) (by decide +kernel))
set_option maxRecDepth 100000 in
theorem cO_6_160 : COk 6 160 mX0_choose := Or.inl (mem_g 636 (by decide +kernel) (by decide +kernel))
set_option maxRecDepth 100000 in
theorem cO_0_26 : COk 0 26 mX0_countWithin := Or.inl (mem_g 640 (by decide +kernel) (by decide +kernel))
set_option maxRecDepth 100000 in
theorem cO_0_44 : COk 0 44 mX5_next := Or.inl (mem_g 644 (by decide +kernel) (by decide +kernel))
set_option maxRecDepth 100000 in
theorem cO_9_77 : COk 9 77 mX6_takes := Or.inl (mem_g 645 (by decide +kernel) (by decide +kernel))
set_option maxRecDepth 100000 in
theorem cO_9_81 : COk 9 81 mX6_put := Or.inl (mem_g 649 (by decide +kernel) (by decide +kernel))
set_option maxRecDepth 100000 in
theorem cO_6_169 : COk 6 169 mX6_mayPut := Or.inl (mem_g 653 (by decide +kernel) (by decide +kernel))
set_option maxRecDepth 100000 in
theorem cO_6_172 : COk 6 172 mX2_write := Or.inl (mem_g 657 (by decide +kernel) (by decide +kernel))
set_option maxRecDepth 100000 in
theorem cO_6_176 : COk 6 176 mX6_putOnce := Or.inl (mem_g 662 (by decide +kernel) (by decide +kernel))
set_option maxRecDepth 100000 in
theorem cO_6_220 : COk 6 220 mX3_build := Or.inl (mem_g 666 (by decide +kernel) (by decide +kernel))
set_option maxRecDepth 100000 in
theorem cO_3_47 : COk 3 47 mX5_append := Or.inl (mem_g 670 (by decide +kernel) (by decide +kernel))
set_option maxRecDepth 100000 in
theorem cO_3_51 : COk 3 51 mX1_findWay := Or.inl (mem_g 671 (by decide +kernel) (by decide +kernel))
set_option maxRecDepth 100000 in
theorem cO_3_57 : COk 3 57 mX3_fillTemplate := Or.inl (mem_g 672 (by decide +kernel) (by decide +kernel))
set_option maxRecDepth 100000 in
theorem cO_3_64 : COk 3 64 mX3_dropRowsOfNone := Or.inl (mem_g 676 (by decide +kernel) (by decide +kernel))
set_option maxRecDepth 100000 in
theorem cO_3_81 : COk 3 81 mX1_howMany := Or.inl (mem_g 680 (by decide +kernel) (by decide +kernel))
set_option maxRecDepth 100000 in
theorem cO_3_96 : COk 3 96 mX3_dropRow := Or.inl (mem_g 681 (by decide +kernel) (by decide +kernel))
set_option maxRecDepth 100000 in
theorem cO_3_103 : COk 3 103 mX3_dropBytes := Or.inl (mem_g 685 (by decide +kernel) (by decide +kernel))
set_option maxRecDepth 100000 in
theorem cO_3_107 : COk 3 107 mX3_pieceAhead := Or.inl (mem_g 689 (by decide +kernel) (by decide +kernel))
set_option maxRecDepth 100000 in
theorem cO_3_73 : COk 3 73 mX3_fillLetter := Or.inl (mem_g 694 (by decide +kernel) (by decide +kernel))
set_option maxRecDepth 100000 in
theorem cO_3_77 : COk 3 77 mX1_firstNode := Or.inl (mem_g 698 (by decide +kernel) (by decide +kernel))
set_option maxRecDepth 100000 in
theorem cO_3_84 : COk 3 84 mX5_lastByteBehind := Or.inl (mem_g 699 (by decide +kernel) (by decide +kernel))
set_option maxRecDepth 100000 in
theorem cO_6_179 : COk 6 179 mX2_keepWritten := Or.inl (mem_g 703 (by decide +kernel) (by decide +kernel))
set_option maxRecDepth 100000 in
theorem cO_9_85 : COk 9 85 mX6_putAll := Or.inl (mem_g 708 (by decide +kernel) (by decide +kernel))
set_option maxRecDepth 100000 in
theorem cO_6_182 : COk 6 182 mX6_restoreWritten := Or.inl (mem_g 712 (by decide +kernel) (by decide +kernel))
set_option maxRecDepth 100000 in
theorem cO_6_217 : COk 6 217 mX2_readWritten := Or.inl (mem_g 716 (by decide +kernel) (by decide +kernel))
set_option maxRecDepth 100000 in
theorem cO_2_47 : COk 2 47 mX5_load := Or.inl (mem_g 720 (by decide +kernel) (by decide +kernel))
set_option maxRecDepth 100000 in
theorem cO_9_89 : COk 9 89 mX6_back := Or.inl (mem_g 721 (by decide +kernel) (by decide +kernel))
set_option maxRecDepth 100000 in
theorem cO_6_185 : COk 6 185 mX2_stepBack := Or.inl (mem_g 725 (by decide +kernel) (by decide +kernel))
set_option maxRecDepth 100000 in
theorem cO_9_103 : COk 9 103 mX6_count := Or.inl (mem_g 729 (by decide +kernel) (by decide +kernel))
set_option maxRecDepth 100000 in
theorem cO_9_7 : COk 9 7 mX6_at := Or.inl (mem_g 737 (by decide +kernel) (by decide +kernel))
set_option maxRecDepth 100000 in
theorem cO_9_18 : COk 9 18 mX8_init := Or.inl (mem_g 809 (by decide +kernel) (by decide +kernel))
set_option maxRecDepth 100000 in
theorem cO_8_99 : COk 8 99 mX8_take := Or.inl (mem_g 863 (by decide +kernel) (by decide +kernel))
set_option maxRecDepth 100000 in
theorem cO_8_210 : COk 8 210 mX8_fault := Or.inl (mem_g 867 (by decide +kernel) (by decide +kernel))
set_option maxRecDepth 100000 in
theorem cO_8_202 : COk 8 202 mX8_isIn := Or.inl (mem_g 871 (by decide +kernel) (by decide +kernel))
set_option maxRecDepth 100000 in
theorem cO_8_206 : COk 8 206 mX8_read := Or.inl (mem_g 874 (by decide +kernel) (by decide +kernel))
set_option maxRecDepth 100000 in
theorem cO_8_187 : COk 8 187 mX8_piece := Or.inl (mem_g 878 (by decide +kernel) (by decide +kernel))
set_option maxRecDepth 100000 in
theorem cO_8_157 : COk 8 157 mX8_look := Or.inl (mem_g 882 (by decide +kernel) (by decide +kernel))
set_option maxRecDepth 100000 in
theorem cO_8_161 : COk 8 161 mX8_isAtom := Or.inl (mem_g 886 (by decide +kernel) (by decide +kernel))
set_option maxRecDepth 100000 in
theorem cO_8_116 : COk 8 116 mX8_isSmall := Or.inl (mem_g 889 (by decide +kernel) (by decide +kernel))
set_option maxRecDepth 100000 in
theorem cO_8_164 : COk 8 164 mX8_term := Or.inl (mem_g 892 (by decide +kernel) (by decide +kernel))
set_option maxRecDepth 100000 in
theorem cO_8_150 : COk 8 150 mX8_adds := Or.inl (mem_g 896 (by decide +kernel) (by decide +kernel))
set_option maxRecDepth 100000 in
theorem cO_8_184 : COk 8 184 mX8_opens := Or.inl (mem_g 900 (by decide +kernel) (by decide +kernel))
set_option maxRecDepth 100000 in
theorem cO_8_146 : COk 8 146 mX8_wrong := Or.inl (mem_g 904 (by decide +kernel) (by decide +kernel))
set_option maxRecDepth 100000 in
theorem cO_8_170 : COk 8 170 mX8_lettered := Or.inl (mem_g 908 (by decide +kernel) (by decide +kernel))
set_option maxRecDepth 100000 in
theorem cO_9_100 : COk 9 100 mX8_thrown := Or.inl (mem_g 1030 (by decide +kernel) (by decide +kernel))
set_option maxRecDepth 100000 in
theorem cO_9_23 : COk 9 23 mX8_feed := Or.inl (mem_g 1034 (by decide +kernel) (by decide +kernel))
set_option maxRecDepth 100000 in
theorem cO_8_194 : COk 8 194 mX8_bytesIn := Or.inl (mem_g 1038 (by decide +kernel) (by decide +kernel))
set_option maxRecDepth 100000 in
theorem cO_8_198 : COk 8 198 mX8_put4 := Or.inl (mem_g 1041 (by decide +kernel) (by decide +kernel))
set_option maxRecDepth 100000 in
theorem cO_9_28 : COk 9 28 mX8_end := Or.inl (mem_g 1045 (by decide +kernel) (by decide +kernel))
set_option maxRecDepth 100000 in
theorem cO_9_32 : COk 9 32 mX8_fault := Or.inl (mem_g 1049 (by decide +kernel) (by decide +kernel))
set_option maxRecDepth 100000 in
theorem cO_9_36 : COk 9 36 mX8_take := Or.inl (mem_g 1050 (by decide +kernel) (by decide +kernel))
set_option maxRecDepth 100000 in
theorem cO_9_41 : COk 9 41 mX8_differ := Or.inl (mem_g 1051 (by decide +kernel) (by decide +kernel))
set_option maxRecDepth 100000 in
theorem cO_9_46 : COk 9 46 mX8_nodes := Or.inl (mem_g 1055 (by decide +kernel) (by decide +kernel))
set_option maxRecDepth 100000 in
theorem cO_9_56 : COk 9 56 mX8_alike := Or.inl (mem_g 1059 (by decide +kernel) (by decide +kernel))
set_option maxRecDepth 100000 in
theorem cO_8_224 : COk 8 224 mX8_isNode := Or.inl (mem_g 1063 (by decide +kernel) (by decide +kernel))
set_option maxRecDepth 100000 in
theorem cO_8_221 : COk 8 221 mX8_areAlike := Or.inl (mem_g 1067 (by decide +kernel) (by decide +kernel))
set_option maxRecDepth 100000 in
theorem cO_8_215 : COk 8 215 mX8_isAtomAlike := Or.inl (mem_g 1071 (by decide +kernel) (by decide +kernel))
set_option maxRecDepth 100000 in
theorem cO_8_219 : COk 8 219 mX7_term := Or.inl (mem_g 1075 (by decide +kernel) (by decide +kernel))
set_option maxRecDepth 100000 in
theorem cO_9_60 : COk 9 60 mX8_matches := Or.inl (mem_g 1079 (by decide +kernel) (by decide +kernel))
set_option maxRecDepth 100000 in
theorem cO_8_256 : COk 8 256 mX8_all := Or.inl (mem_g 1083 (by decide +kernel) (by decide +kernel))
set_option maxRecDepth 100000 in
theorem cO_8_253 : COk 8 253 mX8_isMatched := Or.inl (mem_g 1087 (by decide +kernel) (by decide +kernel))
set_option maxRecDepth 100000 in
theorem cO_8_239 : COk 8 239 mX8_task := Or.inl (mem_g 1091 (by decide +kernel) (by decide +kernel))
set_option maxRecDepth 100000 in
theorem cO_8_243 : COk 8 243 mX8_does := Or.inl (mem_g 1095 (by decide +kernel) (by decide +kernel))
set_option maxRecDepth 100000 in
theorem cO_8_230 : COk 8 230 mX8_differAll := Or.inl (mem_g 1099 (by decide +kernel) (by decide +kernel))
set_option maxRecDepth 100000 in
theorem cO_8_233 : COk 8 233 mX8_whole := Or.inl (mem_g 1103 (by decide +kernel) (by decide +kernel))
set_option maxRecDepth 100000 in
theorem cO_8_246 : COk 8 246 mX8_isWithin := Or.inl (mem_g 1107 (by decide +kernel) (by decide +kernel))
set_option maxRecDepth 100000 in
theorem cO_8_236 : COk 8 236 mX8_some := Or.inl (mem_g 1111 (by decide +kernel) (by decide +kernel))
set_option maxRecDepth 100000 in
theorem cO_8_249 : COk 8 249 mX8_isRowAlike := Or.inl (mem_g 1115 (by decide +kernel) (by decide +kernel))
set_option maxRecDepth 100000 in
theorem cO_9_64 : COk 9 64 mX8_match := Or.inl (mem_g 1119 (by decide +kernel) (by decide +kernel))
set_option maxRecDepth 100000 in
theorem cO_9_68 : COk 9 68 mX8_hole := Or.inl (mem_g 1123 (by decide +kernel) (by decide +kernel))
set_option maxRecDepth 100000 in
theorem cO_8_259 : COk 8 259 mX8_kindOf := Or.inl (mem_g 1127 (by decide +kernel) (by decide +kernel))
set_option maxRecDepth 100000 in
theorem cO_9_72 : COk 9 72 mX8_row := Or.inl (mem_g 1131 (by decide +kernel) (by decide +kernel))
set_option maxRecDepth 100000 in
theorem cO_9_76 : COk 9 76 mX8_taken := Or.inl (mem_g 1135 (by decide +kernel) (by decide +kernel))
set_option maxRecDepth 100000 in
theorem cO_8_263 : COk 8 263 mX8_takeBy := Or.inl (mem_g 1139 (by decide +kernel) (by decide +kernel))
set_option maxRecDepth 100000 in
theorem cO_9_80 : COk 9 80 mX8_takes := Or.inl (mem_g 1143 (by decide +kernel) (by decide +kernel))
set_option maxRecDepth 100000 in
theorem cO_9_84 : COk 9 84 mX8_put := Or.inl (mem_g 1147 (by decide +kernel) (by decide +kernel))
set_option maxRecDepth 100000 in
theorem cO_8_279 : COk 8 279 mX8_puts := Or.inl (mem_g 1151 (by decide +kernel) (by decide +kernel))
set_option maxRecDepth 100000 in
theorem cO_8_272 : COk 8 272 mX8_copy := Or.inl (mem_g 1155 (by decide +kernel) (by decide +kernel))
set_option maxRecDepth 100000 in
theorem cO_8_276 : COk 8 276 mX8_write := Or.inl (mem_g 1159 (by decide +kernel) (by decide +kernel))
set_option maxRecDepth 100000 in
theorem cO_8_269 : COk 8 269 mX8_strike := Or.inl (mem_g 1163 (by decide +kernel) (by decide +kernel))
set_option maxRecDepth 100000 in
theorem cO_8_282 : COk 8 282 mX8_keep := Or.inl (mem_g 1167 (by decide +kernel) (by decide +kernel))
set_option maxRecDepth 100000 in
theorem cO_9_88 : COk 9 88 mX8_putAll := Or.inl (mem_g 1171 (by decide +kernel) (by decide +kernel))
set_option maxRecDepth 100000 in
theorem cO_9_93 : COk 9 93 mX8_back := Or.inl (mem_g 1175 (by decide +kernel) (by decide +kernel))
set_option maxRecDepth 100000 in
theorem cO_9_51 : COk 9 51 mX8_node := Or.inl (mem_g 1179 (by decide +kernel) (by decide +kernel))
set_option maxRecDepth 100000 in
theorem cO_9_99 : COk 9 99 mX8_at := Or.inl (mem_g 1183 (by decide +kernel) (by decide +kernel))
set_option maxRecDepth 100000 in
theorem cO_9_106 : COk 9 106 mX8_count := Or.inl (mem_g 1187 (by decide +kernel) (by decide +kernel))
set_option maxRecDepth 100000 in
theorem cO_6_15 : COk 6 15 mX5_init := Or.inr ⟨"ShapeTool", List.mem_of_getElem? (i := 0) rfl⟩
set_option maxRecDepth 100000 in
theorem cO_6_31 : COk 6 31 mX4_init := Or.inr ⟨"ShapeTool", List.mem_of_getElem? (i := 1) rfl⟩
set_option maxRecDepth 100000 in
theorem cO_6_65 : COk 6 65 mX2_init := Or.inr ⟨"ShapeTool", List.mem_of_getElem? (i := 2) rfl⟩
set_option maxRecDepth 100000 in
theorem cO_4_64 : COk 4 64 mX6_isBlank := Or.inr ⟨"ShapeTool", List.mem_of_getElem? (i := 3) rfl⟩
set_option maxRecDepth 100000 in
theorem cO_4_81 : COk 4 81 mX6_isAtomByte := Or.inr ⟨"ShapeTool", List.mem_of_getElem? (i := 4) rfl⟩
set_option maxRecDepth 100000 in
theorem cO_4_106 : COk 4 106 mX6_isSmall := Or.inr ⟨"ShapeTool", List.mem_of_getElem? (i := 5) rfl⟩
set_option maxRecDepth 100000 in
theorem cO_8_15 : COk 8 15 mX7_init := Or.inr ⟨"ShapeToolModel", List.mem_of_getElem? (i := 6) rfl⟩
set_option maxRecDepth 100000 in
theorem nO_9_8 : NOk 9 8 6 := ⟨by decide, mem_g 82 (by decide +kernel) (by decide +kernel), mem_g 83 (by decide +kernel) (by decide +kernel), mem_g 67 (by decide +kernel) (by decide +kernel)⟩
set_option maxRecDepth 100000 in
theorem nO_6_13 : NOk 6 13 5 := ⟨by decide, mem_g 90 (by decide +kernel) (by decide +kernel), mem_g 91 (by decide +kernel) (by decide +kernel), mem_g 68 (by decide +kernel) (by decide +kernel)⟩
set_option maxRecDepth 100000 in
theorem nO_6_29 : NOk 6 29 4 := ⟨by decide, mem_g 177 (by decide +kernel) (by decide +kernel), mem_g 178 (by decide +kernel) (by decide +kernel), mem_g 69 (by decide +kernel) (by decide +kernel)⟩
set_option maxRecDepth 100000 in
theorem nO_6_36 : NOk 6 36 1 := ⟨by decide, mem_g 208 (by decide +kernel) (by decide +kernel), mem_g 209 (by decide +kernel) (by decide +kernel), mem_g 70 (by decide +kernel) (by decide +kernel)⟩
set_option maxRecDepth 100000 in
theorem nO_6_45 : NOk 6 45 0 := ⟨by decide, mem_g 265 (by decide +kernel) (by decide +kernel), mem_g 266 (by decide +kernel) (by decide +kernel), mem_g 71 (by decide +kernel) (by decide +kernel)⟩
set_option maxRecDepth 100000 in
theorem nO_6_54 : NOk 6 54 3 := ⟨by decide, mem_g 291 (by decide +kernel) (by decide +kernel), mem_g 292 (by decide +kernel) (by decide +kernel), mem_g 72 (by decide +kernel) (by decide +kernel)⟩
set_option maxRecDepth 100000 in
theorem nO_6_63 : NOk 6 63 2 := ⟨by decide, mem_g 310 (by decide +kernel) (by decide +kernel), mem_g 311 (by decide +kernel) (by decide +kernel), mem_g 73 (by decide +kernel) (by decide +kernel)⟩
set_option maxRecDepth 100000 in
theorem nO_9_16 : NOk 9 16 8 := ⟨by decide, mem_g 807 (by decide +kernel) (by decide +kernel), mem_g 808 (by decide +kernel) (by decide +kernel), mem_g 75 (by decide +kernel) (by decide +kernel)⟩
set_option maxRecDepth 100000 in
theorem nO_8_13 : NOk 8 13 7 := ⟨by decide, mem_g 813 (by decide +kernel) (by decide +kernel), mem_g 814 (by decide +kernel) (by decide +kernel), mem_g 76 (by decide +kernel) (by decide +kernel)⟩
end
section
/-! ===== THE PURE MACHINE AND THE MACHINE ===== -/
def inR (x : Int) : Prop := -2147483648 ≤ x ∧ x < 2147483648
theorem inR_t {x : Int} (h : inR x) : (Int32.ofInt x).toInt = x := Int32.toInt_ofInt_of_le (by have := h.1; omega) (by have := h.2; omega)
theorem inR_of (x : Int32) : inR x.toInt := ⟨by have := Int32.le_toInt x; omega, by have := Int32.toInt_lt x; omega⟩
theorem inR_lt {x y : Int} (hx : inR x) (hy : inR y) : Int32.ofInt x < Int32.ofInt y ↔ x < y := by rw [Int32.lt_iff_toInt_lt, inR_t hx, inR_t hy]
theorem inR_le {x y : Int} (hx : inR x) (hy : inR y) : Int32.ofInt x ≤ Int32.ofInt y ↔ x ≤ y := by rw [Int32.le_iff_toInt_le, inR_t hx, inR_t hy]
theorem inR_eq {x y : Int} (hx : inR x) (hy : inR y) : Int32.ofInt x = Int32.ofInt y ↔ x = y := by rw [← Int32.toInt_inj, inR_t hx, inR_t hy]
theorem inR_0 : inR 0 := ⟨by omega, by omega⟩
theorem inR_lt0 {x : Int} (hx : inR x) : Int32.ofInt x < 0 ↔ x < 0 := inR_lt hx inR_0
theorem inR_le0 {x : Int} (hx : inR x) : Int32.ofInt x ≤ 0 ↔ x ≤ 0 := inR_le hx inR_0
theorem inR_gt0 {x : Int} (hx : inR x) : 0 < Int32.ofInt x ↔ 0 < x := inR_lt inR_0 hx
theorem inR_ge0 {x : Int} (hx : inR x) : 0 ≤ Int32.ofInt x ↔ 0 ≤ x := inR_le inR_0 hx
theorem inR_eq0 {x : Int} (hx : inR x) : Int32.ofInt x = 0 ↔ x = 0 := inR_eq hx inR_0
theorem inR_cl {x : Int} (h : inR x) : (Int32.ofInt x).toNatClampNeg = x.toNat := by
  show (Int32.ofInt x).toInt.toNat = _
  rw [inR_t h]
/-- a cell's place -/
def gV (Γ : GX) (v : AV) : Value := match v with
  | .inl x => .int (Int32.ofInt x)
  | .inr none => .null
  | .inr (some a) => .ref (if a = 0 then gb Γ else gB Γ + (a - 1))
def okv (v : AV) : Prop := match v with
  | .inl x => inR x
  | .inr _ => True
theorem gV_cat (Γ : GX) (v : AV) : (gV Γ v).category = 1 := by
  rcases v with x | _ | a <;> rfl
def mset {α : Type} (f : Nat → Nat → α) (a k : Nat) (v : α) : Nat → Nat → α := fun b j => if b = a ∧ j = k then v else f b j
theorem mset_s {α : Type} (f : Nat → Nat → α) (a k : Nat) (v : α) : mset f a k v a k = v := by simp [mset]
theorem mset_a {α : Type} (f : Nat → Nat → α) {a k b j : Nat} (v : α) (h : b ≠ a) : mset f a k v b j = f b j := by simp [mset, h]
theorem mset_k {α : Type} (f : Nat → Nat → α) {a k b j : Nat} (v : α) (h : j ≠ k) : mset f a k v b j = f b j := by simp [mset, h]
/-- the contents of a place, by its type -/
def sv (Γ : GX) (h : AH) (ty : FieldType) (a k : Nat) : Value := match ty with
  | .object _ => gV Γ (.inr (h.1.2.1 a k))
  | .array _ => gV Γ (.inr (h.1.2.1 a k))
  | .long => .long (h.1.2.2.1 a k)
  | _ => .int (Int32.ofInt (h.2 a k))
/-- the heap holds what the pure heap says -/
def HR (Γ : GX) (h : AH) (H : Heap) : Prop :=
  gB Γ + h.1.1.length ≤ H.size + 1 ∧ (gF Γ = true → gB Γ + h.1.1.length = H.size + 1) ∧ (∀ q : Nat, q < gB Γ → H[q]? = (gH Γ)[q]?) ∧
  (∀ a ci : Nat, 0 < a → h.1.1[a]? = some (.inl ci) → ci < 9 ∧ t_OB (gB Γ + (a - 1)) ((gD Γ).1 ci) (cF ci) ((gD Γ).2 ci) H (fun k => sv Γ h (cy ci k) a k)) ∧
  (∀ (a : Nat) (ty : FieldType) (n : Nat), 0 < a → h.1.1[a]? = some (.inr (ty, n)) → H[gB Γ + (a - 1)]? = some (arrV (gA Γ ty) n (fun k => sv Γ h ty a k))) ∧
  ∀ a k : Nat, inR (h.2 a k)
def aTy : List FieldType := [.int, .boolean, .byte, .long, .array .int]
/-- what a method knows of the tables -/
def KS (Γ : GX) (s : State) : Prop :=
  va_K (gD Γ) vwCl [] s ∧ (∀ ty ∈ aTy, ArrOfT s (gA Γ ty) ty ∧ s.vm.findClass ("[" ++ ty.toString) = some (gA Γ ty)) ∧
  (∀ x ∈ nF, va_Nw (.fieldLinkNest x.1 x.2.1 x.2.2.1 x.2.2.2.1 x.2.2.2.2.1 x.2.2.2.2.2) s) ∧ (∀ x ∈ nM, va_Nw (.methodLinkNest x.1 x.2.1 x.2.2.1 x.2.2.2) s) ∧
  va_X (gb Γ) (gL Γ) (gX Γ) s (gH Γ) ∧ gb Γ < gB Γ ∧ gL Γ < 2147483648
theorem KS.warm {Γ : GX} {s U : State} (hW : s.WarmedH U.vm) (h : KS Γ s) : KS Γ U := by
  obtain ⟨h1, h2, h3, h4, h5, h6⟩ := h
  refine ⟨va_K.moved hW.alike h1, fun ty ht => ⟨arrOfT_moved hW.alike (h2 ty ht).1, ?_⟩, fun x hx => va_Nw.warmF hW (h3 x hx), fun x hx => va_Nw.warmM hW (h4 x hx), va_X.moved hW.alike h5, h6⟩
  rw [hW.alike.findClass]
  exact (h2 ty ht).2
theorem KS.blind {Γ : GX} {U : State} (g : JFrame) (mk : MethodId) (a : Array Value) (h : KS Γ U) : KS Γ (U.calling g mk a) := by
  obtain ⟨h1, h2, h3, h4, h5, h6⟩ := h
  exact ⟨va_K.moved (u := U) (U := U.calling g mk a) (Vm.Alike.refl U.vm) h1, fun ty ht => ⟨arrOfT_moved (u := U) (E := U.calling g mk a) (Vm.Alike.refl U.vm) (h2 ty ht).1, (h2 ty ht).2⟩, fun x hx => va_Nw.same rfl (rfl : U.vm = (U.calling g mk a).vm) (h3 x hx), fun x hx => va_Nw.same rfl (rfl : U.vm = (U.calling g mk a).vm) (h4 x hx), va_X.moved (u := U) (U := U.calling g mk a) (Vm.Alike.refl U.vm) h5, h6⟩
/-- a method's body stands -/
def Cx (Γ : GX) (d : Nat) (q : MI) (p : Program) (Rm : Room) (s : State) (m : MethodId) (args : Array Value) (meth : Method) (c : Code) : Prop :=
  p.tables.exec = Jvm.exec ∧ c.code = q.2.2.1 ∧ c.maxLocals = q.2.2.2.1 ∧ s.vm.findClass (cN q.1) = some m.cls ∧ (∀ w ∈ lw_g, w.before args s = true) ∧
  meth.sig.returnType = q.2.2.2.2.1 ∧ meth.locks = false ∧ meth.name = q.2.1.name ∧ KS Γ s ∧ d ≤ Rm.frames ∧ 64 * d ≤ Rm.locals
/-- the locals -/
def LR (Γ : GX) (n : Nat) (mls : Array Slot) (ls : List (Option AV)) : Prop :=
  mls.size = n ∧ lv_wf mls ∧ ls.length = n ∧ ∀ (i : Nat) (v : AV), ls[i]? = some (some v) → mls[i]? = some (.val (gV Γ v))
def okl (ls : List (Option AV)) : Prop := ∀ v : AV, some v ∈ ls → okv v
def okS (st : List AV) : Prop := ∀ v ∈ st, okv v
/-- a place at which the method returns with this -/
def retI (q : MI) (pc : Nat) (r : Option AV) : Prop := match r with
  | none => decode q.2.2.1 pc = .ok (.return_, 1) ∧ q.2.2.2.2.1 = none
  | some (.inl x) => decode q.2.2.1 pc = .ok (.ireturn, 1) ∧ ∃ ty : FieldType, q.2.2.2.2.1 = some ty ∧ narrow ty (.int (Int32.ofInt x)) = .int (Int32.ofInt x)
  | some (.inr _) => False
/-- FROM HERE THE METHOD RETURNS, with this answer and this heap -/
def Ev (Γ : GX) (d : Nat) (q : MI) (pc : Nat) (ls : List (Option AV)) (st : List AV) (h : AH) (R : AR) : Prop :=
  ∀ (p : Program) (e : Env) (Rm : Room) (s : State) (m : MethodId) (args : Array Value) (below : List Frame) (meth : Method) (c : Code) (Q : State → Prop) (n0 s0 : Nat),
    Cx Γ d q p Rm s m args meth c → R.2.1.2.2.2.1 ≤ n0 + Rm.cells → R.2.1.2.2.2.2 ≤ s0 + Rm.slots →
    (∀ (pc' : Nat) (H' : Heap) (locs' : List Loc) (cells' slots' : Nat) (mls' : Array Slot), retI q pc' R.1 → HR Γ R.2 H' → (∀ z ∈ locs', gB Γ ≤ z.base) → R.2.1.2.2.2.1 = n0 + cells' → R.2.1.2.2.2.2 = s0 + slots' → (∀ v : AV, R.1 = some v → okv v) →
      W p (gl Γ) e Rm s m args below meth c H' locs' cells' slots' Q (F0 m pc' mls' (R.1.map (gV Γ)).toList)) →
    ∀ (H : Heap) (locs : List Loc) (cells slots : Nat) (mls : Array Slot), LR Γ q.2.2.2.1 mls ls → okl ls → okS st → HR Γ h H → (∀ z ∈ locs, gB Γ ≤ z.base) → h.1.2.2.2.1 = n0 + cells → h.1.2.2.2.2 = s0 + slots →
      W p (gl Γ) e Rm s m args below meth c H locs cells slots Q (F0 m pc mls (st.map (gV Γ)))
section EV
variable {Γ : GX} {d : Nat} {q : MI} {pc pc' : Nat} {ls ls' : List (Option AV)} {st st' : List AV} {h : AH} {R : AR}
/-- an instruction that moves the stack alone -/
theorem ev_of (f : ∀ (p : Program) (e : Env) (Rm : Room) (s : State) (m : MethodId) (args : Array Value) (below : List Frame) (meth : Method) (c : Code) (Q : State → Prop) (H : Heap) (locs : List Loc) (cells slots : Nat) (mls : Array Slot),
      Cx Γ d q p Rm s m args meth c → LR Γ q.2.2.2.1 mls ls → okl ls → okS st → HR Γ h H → W p (gl Γ) e Rm s m args below meth c H locs cells slots Q (F0 m pc' mls (st'.map (gV Γ))) → W p (gl Γ) e Rm s m args below meth c H locs cells slots Q (F0 m pc mls (st.map (gV Γ))))
    (hok : okl ls → okS st → (∀ a k : Nat, inR (h.2 a k)) → okS st') (k : Ev Γ d q pc' ls st' h R) : Ev Γ d q pc ls st h R := by
  intro p e Rm s m args below meth c Q n0 s0 C h1 h2 hK H locs cells slots mls hl hol hos hH hz hc hs
  exact f p e Rm s m args below meth c Q H locs cells slots mls C hl hol hos hH (k p e Rm s m args below meth c Q n0 s0 C h1 h2 hK H locs cells slots mls hl hol (hok hol hos hH.2.2.2.2.2) hH hz hc hs)
theorem okS_c {v : AV} (hv : okv v) (hs : okS st) : okS (v :: st) := fun w hw => by
  rcases List.mem_cons.mp hw with rfl | hw
  · exact hv
  · exact hs w hw
theorem okS_i {x : Int} (hx : inR x) (hs : okS st) : okS (.inl x :: st) := okS_c (v := .inl x) hx hs
theorem okS_t {v : AV} (hs : okS (v :: st)) : okS st := fun w hw => hs w (List.mem_cons_of_mem _ hw)
theorem okS_h {v : AV} (hs : okS (v :: st)) : okv v := hs v List.mem_cons_self
theorem okl_at {i : Nat} {v : AV} (hl : okl ls) (hi : ls[i]? = some (some v)) : okv v := hl v (List.mem_of_getElem? hi)
theorem e_iconst {n : Int} (hd : decode q.2.2.1 pc = .ok (.iconst n, 1)) (hn : inR n) (k : Ev Γ d q (pc + 1) ls (.inl n :: st) h R) : Ev Γ d q pc ls st h R :=
  ev_of (fun _ _ _ _ _ _ _ _ _ _ _ _ _ _ _ C _ _ _ _ w => lv_iconst C.1 C.2.1 hd rfl w) (fun _ hs _ => okS_i hn hs) k
theorem e_bipush {n : Int} (hd : decode q.2.2.1 pc = .ok (.bipush n, 2)) (hv : (Int8.ofInt n).toInt32 = Int32.ofInt n) (hn : inR n) (k : Ev Γ d q (pc + 2) ls (.inl n :: st) h R) : Ev Γ d q pc ls st h R :=
  ev_of (fun _ _ _ _ _ _ _ _ _ _ _ _ _ _ _ C _ _ _ _ w => lv_bipush C.1 C.2.1 hd hv w) (fun _ hs _ => okS_i hn hs) k
theorem e_sipush {n : Int} (hd : decode q.2.2.1 pc = .ok (.sipush n, 3)) (hv : (Int16.ofInt n).toInt32 = Int32.ofInt n) (hn : inR n) (k : Ev Γ d q (pc + 3) ls (.inl n :: st) h R) : Ev Γ d q pc ls st h R :=
  ev_of (fun _ _ _ _ _ _ _ _ _ _ _ _ _ _ _ C _ _ _ _ w => lv_sipush C.1 C.2.1 hd hv w) (fun _ hs _ => okS_i hn hs) k
theorem e_iload_n {j : Fin 4} {x : Int} (hd : decode q.2.2.1 pc = .ok (.iload_n j, 1)) (hi : ls[j.val]? = some (some (.inl x))) (k : Ev Γ d q (pc + 1) ls (.inl x :: st) h R) : Ev Γ d q pc ls st h R :=
  ev_of (fun _ _ _ _ _ _ _ _ _ _ _ _ _ _ _ C hl _ _ _ w => lv_iload_n C.1 C.2.1 hd rfl (hl.2.2.2 _ _ hi) w) (fun hl hs _ => okS_c (okl_at hl hi) hs) k
theorem e_iload {i : Nat} {x : Int} (hd : decode q.2.2.1 pc = .ok (.iload i, 2)) (hi : ls[i]? = some (some (.inl x))) (k : Ev Γ d q (pc + 2) ls (.inl x :: st) h R) : Ev Γ d q pc ls st h R :=
  ev_of (fun _ _ _ _ _ _ _ _ _ _ _ _ _ _ _ C hl _ _ _ w => lv_iload C.1 C.2.1 hd (hl.2.2.2 _ _ hi) w) (fun hl hs _ => okS_c (okl_at hl hi) hs) k
theorem e_aload_n {j : Fin 4} {a : Nat} (hd : decode q.2.2.1 pc = .ok (.aload_n j, 1)) (hi : ls[j.val]? = some (some (.inr (some a)))) (k : Ev Γ d q (pc + 1) ls (.inr (some a) :: st) h R) : Ev Γ d q pc ls st h R :=
  ev_of (fun _ _ _ _ _ _ _ _ _ _ _ _ _ _ _ C hl _ _ _ w => lv_aload_n C.1 C.2.1 hd rfl (hl.2.2.2 _ _ hi) w) (fun hl hs _ => okS_c (okl_at hl hi) hs) k
theorem e_aload {i : Nat} {a : Nat} (hd : decode q.2.2.1 pc = .ok (.aload i, 2)) (hi : ls[i]? = some (some (.inr (some a)))) (k : Ev Γ d q (pc + 2) ls (.inr (some a) :: st) h R) : Ev Γ d q pc ls st h R :=
  ev_of (fun _ _ _ _ _ _ _ _ _ _ _ _ _ _ _ C hl _ _ _ w => lv_aload C.1 C.2.1 hd (hl.2.2.2 _ _ hi) w) (fun hl hs _ => okS_c (okl_at hl hi) hs) k

theorem e_iadd {x y : Int} (hd : decode q.2.2.1 pc = .ok (.iadd, 1)) (hr : inR (x + y)) (k : Ev Γ d q (pc + 1) ls (.inl (x + y) :: st) h R) : Ev Γ d q pc ls (.inl y :: .inl x :: st) h R :=
  ev_of (fun _ _ _ _ _ _ _ _ _ _ _ _ _ _ _ C _ _ _ _ w => lv_iadd C.1 C.2.1 hd (by
    have e : Value.int (Int32.ofInt x + Int32.ofInt y) = gV Γ (.inl (x + y)) := by show _ = Value.int (Int32.ofInt (x + y)); rw [Int32.ofInt_add]
    rw [e]
    exact w)) (fun _ hs _ => okS_i hr (okS_t (okS_t hs))) k
theorem e_isub {x y : Int} (hd : decode q.2.2.1 pc = .ok (.isub, 1)) (hr : inR (x - y)) (k : Ev Γ d q (pc + 1) ls (.inl (x - y) :: st) h R) : Ev Γ d q pc ls (.inl y :: .inl x :: st) h R :=
  ev_of (fun _ _ _ _ _ _ _ _ _ _ _ _ _ _ _ C _ _ _ _ w => lv_isub C.1 C.2.1 hd (by
    have e : Value.int (Int32.ofInt x - Int32.ofInt y) = gV Γ (.inl (x - y)) := by show _ = Value.int (Int32.ofInt (x - y)); rw [Int32.ofInt_sub]
    rw [e]
    exact w)) (fun _ hs _ => okS_i hr (okS_t (okS_t hs))) k
theorem e_imul {x y : Int} (hd : decode q.2.2.1 pc = .ok (.imul, 1)) (hr : inR (x * y)) (k : Ev Γ d q (pc + 1) ls (.inl (x * y) :: st) h R) : Ev Γ d q pc ls (.inl y :: .inl x :: st) h R :=
  ev_of (fun _ _ _ _ _ _ _ _ _ _ _ _ _ _ _ C _ _ _ _ w => lv_imul C.1 C.2.1 hd (by
    have e : Value.int (Int32.ofInt x * Int32.ofInt y) = gV Γ (.inl (x * y)) := by show _ = Value.int (Int32.ofInt (x * y)); rw [Int32.ofInt_mul]
    rw [e]
    exact w)) (fun _ hs _ => okS_i hr (okS_t (okS_t hs))) k
def bAnd (x y : Int) : Int := (Int32.ofInt x &&& Int32.ofInt y).toInt
def bOr (x y : Int) : Int := (Int32.ofInt x ||| Int32.ofInt y).toInt
def bXor (x y : Int) : Int := (Int32.ofInt x ^^^ Int32.ofInt y).toInt
def bShl (x y : Int) : Int := (Int32.ofInt x <<< (Int32.ofInt y &&& 31)).toInt
def bShr (x y : Int) : Int := (Int32.ofInt x >>> (Int32.ofInt y &&& 31)).toInt
def bUsh (x y : Int) : Int := ((Int32.ofInt x).toUInt32 >>> ((Int32.ofInt y).toUInt32 &&& Int32.toUInt32 31)).toInt32.toInt
def bByte (x : Int) : Int := (Int32.ofInt x).toInt8.toInt32.toInt
theorem e_iand {x y : Int} (hd : decode q.2.2.1 pc = .ok (.iand, 1)) (k : Ev Γ d q (pc + 1) ls (.inl (bAnd x y) :: st) h R) : Ev Γ d q pc ls (.inl y :: .inl x :: st) h R :=
  ev_of (fun _ _ _ _ _ _ _ _ _ _ _ _ _ _ _ C _ _ _ _ w => lv_iand C.1 C.2.1 hd (by
    have e : Value.int (Int32.ofInt x &&& Int32.ofInt y) = gV Γ (.inl (bAnd x y)) := by show _ = Value.int (Int32.ofInt (Int32.toInt _)); rw [Int32.ofInt_toInt]
    rw [e]
    exact w)) (fun _ hs _ => okS_i (inR_of _) (okS_t (okS_t hs))) k
theorem e_ior {x y : Int} (hd : decode q.2.2.1 pc = .ok (.ior, 1)) (k : Ev Γ d q (pc + 1) ls (.inl (bOr x y) :: st) h R) : Ev Γ d q pc ls (.inl y :: .inl x :: st) h R :=
  ev_of (fun _ _ _ _ _ _ _ _ _ _ _ _ _ _ _ C _ _ _ _ w => lv_ior C.1 C.2.1 hd (by
    have e : Value.int (Int32.ofInt x ||| Int32.ofInt y) = gV Γ (.inl (bOr x y)) := by show _ = Value.int (Int32.ofInt (Int32.toInt _)); rw [Int32.ofInt_toInt]
    rw [e]
    exact w)) (fun _ hs _ => okS_i (inR_of _) (okS_t (okS_t hs))) k
theorem e_ixor {x y : Int} (hd : decode q.2.2.1 pc = .ok (.ixor, 1)) (k : Ev Γ d q (pc + 1) ls (.inl (bXor x y) :: st) h R) : Ev Γ d q pc ls (.inl y :: .inl x :: st) h R :=
  ev_of (fun _ _ _ _ _ _ _ _ _ _ _ _ _ _ _ C _ _ _ _ w => lv_ixor C.1 C.2.1 hd (by
    have e : Value.int (Int32.ofInt x ^^^ Int32.ofInt y) = gV Γ (.inl (bXor x y)) := by show _ = Value.int (Int32.ofInt (Int32.toInt _)); rw [Int32.ofInt_toInt]
    rw [e]
    exact w)) (fun _ hs _ => okS_i (inR_of _) (okS_t (okS_t hs))) k
theorem e_ishl {x y : Int} (hd : decode q.2.2.1 pc = .ok (.ishl, 1)) (k : Ev Γ d q (pc + 1) ls (.inl (bShl x y) :: st) h R) : Ev Γ d q pc ls (.inl y :: .inl x :: st) h R :=
  ev_of (fun _ _ _ _ _ _ _ _ _ _ _ _ _ _ _ C _ _ _ _ w => lv_ishl C.1 C.2.1 hd (by
    have e : Value.int (Int32.ofInt x <<< (Int32.ofInt y &&& 31)) = gV Γ (.inl (bShl x y)) := by show _ = Value.int (Int32.ofInt (Int32.toInt _)); rw [Int32.ofInt_toInt]
    rw [e]
    exact w)) (fun _ hs _ => okS_i (inR_of _) (okS_t (okS_t hs))) k
theorem e_ishr {x y : Int} (hd : decode q.2.2.1 pc = .ok (.ishr, 1)) (k : Ev Γ d q (pc + 1) ls (.inl (bShr x y) :: st) h R) : Ev Γ d q pc ls (.inl y :: .inl x :: st) h R :=
  ev_of (fun _ _ _ _ _ _ _ _ _ _ _ _ _ _ _ C _ _ _ _ w => lv_ishr C.1 C.2.1 hd (by
    have e : Value.int (Int32.ofInt x >>> (Int32.ofInt y &&& 31)) = gV Γ (.inl (bShr x y)) := by show _ = Value.int (Int32.ofInt (Int32.toInt _)); rw [Int32.ofInt_toInt]
    rw [e]
    exact w)) (fun _ hs _ => okS_i (inR_of _) (okS_t (okS_t hs))) k
theorem e_iushr {x y : Int} (hd : decode q.2.2.1 pc = .ok (.iushr, 1)) (k : Ev Γ d q (pc + 1) ls (.inl (bUsh x y) :: st) h R) : Ev Γ d q pc ls (.inl y :: .inl x :: st) h R :=
  ev_of (fun _ _ _ _ _ _ _ _ _ _ _ _ _ _ _ C _ _ _ _ w => lv_iushr C.1 C.2.1 hd (v := Int32.ofInt (bUsh x y)) (Int32.ofInt_toInt _).symm w) (fun _ hs _ => okS_i (inR_of _) (okS_t (okS_t hs))) k
theorem e_i2b {x : Int} (hd : decode q.2.2.1 pc = .ok (.i2b, 1)) (k : Ev Γ d q (pc + 1) ls (.inl (bByte x) :: st) h R) : Ev Γ d q pc ls (.inl x :: st) h R :=
  ev_of (fun _ _ _ _ _ _ _ _ _ _ _ _ _ _ _ C _ _ _ _ w => lv_i2b C.1 C.2.1 hd (v := Int32.ofInt (bByte x)) (Int32.ofInt_toInt _).symm w) (fun _ hs _ => okS_i (inR_of _) (okS_t hs)) k
theorem e_dup {v : AV} (hd : decode q.2.2.1 pc = .ok (.dup, 1)) (k : Ev Γ d q (pc + 1) ls (v :: v :: st) h R) : Ev Γ d q pc ls (v :: st) h R :=
  ev_of (fun _ _ _ _ _ _ _ _ _ _ _ _ _ _ _ C _ _ _ _ w => lv_dup C.1 C.2.1 hd (gV_cat Γ v) w) (fun _ hs _ => okS_c (okS_h hs) hs) k
theorem e_pop {v : AV} (hd : decode q.2.2.1 pc = .ok (.pop, 1)) (k : Ev Γ d q (pc + 1) ls st h R) : Ev Γ d q pc ls (v :: st) h R :=
  ev_of (fun _ _ _ _ _ _ _ _ _ _ _ _ _ _ _ C _ _ _ _ w => lv_pop C.1 C.2.1 hd (gV_cat Γ v) w) (fun _ hs _ => okS_t hs) k
theorem e_dup2 {v w : AV} (hd : decode q.2.2.1 pc = .ok (.dup2, 1)) (k : Ev Γ d q (pc + 1) ls (v :: w :: v :: w :: st) h R) : Ev Γ d q pc ls (v :: w :: st) h R :=
  ev_of (fun _ _ _ _ _ _ _ _ _ _ _ _ _ _ _ C _ _ _ _ z => lv_dup2_11 C.1 C.2.1 hd (gV_cat Γ v) (gV_cat Γ w) z) (fun _ hs _ => okS_c (okS_h hs) (okS_c (okS_h (okS_t hs)) hs)) k
theorem e_goto {off : Int} {tgt : Nat} (hd : decode q.2.2.1 pc = .ok (.goto off, 3)) (ht : (pc : Int) + off = (tgt : Int)) (k : Ev Γ d q tgt ls st h R) : Ev Γ d q pc ls st h R :=
  ev_of (fun _ _ _ _ _ _ _ _ _ _ _ _ _ _ _ C _ _ _ _ w => lv_goto C.1 C.2.1 hd ht w) (fun _ hs _ => hs) k
theorem e_if_eq {x : Int} {off : Int} {tgt : Nat} (hd : decode q.2.2.1 pc = .ok (.ifCond .eq off, 3)) (ht : (pc : Int) + off = (tgt : Int)) (kt : (x = 0) → Ev Γ d q tgt ls st h R) (kf : (¬ x = 0) → Ev Γ d q (pc + 3) ls st h R) : Ev Γ d q pc ls (.inl x :: st) h R := by
  intro p e Rm s m args below meth c Q n0 s0 C h1 h2 hK H locs cells slots mls hl hol hos hH hz hc hs
  have hx : inR x := okS_h hos
  exact lv_if_eq C.1 C.2.1 hd ht (fun c => kt ((inR_eq0 hx).mp c) p e Rm s m args below meth _ Q n0 s0 C h1 h2 hK H locs cells slots mls hl hol (okS_t hos) hH hz hc hs) (fun c => kf (fun z => c ((inR_eq0 hx).mpr z)) p e Rm s m args below meth _ Q n0 s0 C h1 h2 hK H locs cells slots mls hl hol (okS_t hos) hH hz hc hs)
theorem e_if_ne {x : Int} {off : Int} {tgt : Nat} (hd : decode q.2.2.1 pc = .ok (.ifCond .ne off, 3)) (ht : (pc : Int) + off = (tgt : Int)) (kt : (¬ x = 0) → Ev Γ d q tgt ls st h R) (kf : (x = 0) → Ev Γ d q (pc + 3) ls st h R) : Ev Γ d q pc ls (.inl x :: st) h R := by
  intro p e Rm s m args below meth c Q n0 s0 C h1 h2 hK H locs cells slots mls hl hol hos hH hz hc hs
  have hx : inR x := okS_h hos
  exact lv_if_ne C.1 C.2.1 hd ht (fun c => kt (fun z => c ((inR_eq0 hx).mpr z)) p e Rm s m args below meth _ Q n0 s0 C h1 h2 hK H locs cells slots mls hl hol (okS_t hos) hH hz hc hs) (fun c => kf ((inR_eq0 hx).mp c) p e Rm s m args below meth _ Q n0 s0 C h1 h2 hK H locs cells slots mls hl hol (okS_t hos) hH hz hc hs)
theorem e_if_lt {x : Int} {off : Int} {tgt : Nat} (hd : decode q.2.2.1 pc = .ok (.ifCond .lt off, 3)) (ht : (pc : Int) + off = (tgt : Int)) (kt : (x < 0) → Ev Γ d q tgt ls st h R) (kf : (¬ x < 0) → Ev Γ d q (pc + 3) ls st h R) : Ev Γ d q pc ls (.inl x :: st) h R := by
  intro p e Rm s m args below meth c Q n0 s0 C h1 h2 hK H locs cells slots mls hl hol hos hH hz hc hs
  have hx : inR x := okS_h hos
  exact lv_if_lt C.1 C.2.1 hd ht (fun c => kt ((inR_lt0 hx).mp c) p e Rm s m args below meth _ Q n0 s0 C h1 h2 hK H locs cells slots mls hl hol (okS_t hos) hH hz hc hs) (fun c => kf (fun z => c ((inR_lt0 hx).mpr z)) p e Rm s m args below meth _ Q n0 s0 C h1 h2 hK H locs cells slots mls hl hol (okS_t hos) hH hz hc hs)
theorem e_if_ge {x : Int} {off : Int} {tgt : Nat} (hd : decode q.2.2.1 pc = .ok (.ifCond .ge off, 3)) (ht : (pc : Int) + off = (tgt : Int)) (kt : (0 ≤ x) → Ev Γ d q tgt ls st h R) (kf : (¬ 0 ≤ x) → Ev Γ d q (pc + 3) ls st h R) : Ev Γ d q pc ls (.inl x :: st) h R := by
  intro p e Rm s m args below meth c Q n0 s0 C h1 h2 hK H locs cells slots mls hl hol hos hH hz hc hs
  have hx : inR x := okS_h hos
  exact lv_if_ge C.1 C.2.1 hd ht (fun c => kt ((inR_ge0 hx).mp c) p e Rm s m args below meth _ Q n0 s0 C h1 h2 hK H locs cells slots mls hl hol (okS_t hos) hH hz hc hs) (fun c => kf (fun z => c ((inR_ge0 hx).mpr z)) p e Rm s m args below meth _ Q n0 s0 C h1 h2 hK H locs cells slots mls hl hol (okS_t hos) hH hz hc hs)
theorem e_if_gt {x : Int} {off : Int} {tgt : Nat} (hd : decode q.2.2.1 pc = .ok (.ifCond .gt off, 3)) (ht : (pc : Int) + off = (tgt : Int)) (kt : (0 < x) → Ev Γ d q tgt ls st h R) (kf : (¬ 0 < x) → Ev Γ d q (pc + 3) ls st h R) : Ev Γ d q pc ls (.inl x :: st) h R := by
  intro p e Rm s m args below meth c Q n0 s0 C h1 h2 hK H locs cells slots mls hl hol hos hH hz hc hs
  have hx : inR x := okS_h hos
  exact lv_if_gt C.1 C.2.1 hd ht (fun c => kt ((inR_gt0 hx).mp c) p e Rm s m args below meth _ Q n0 s0 C h1 h2 hK H locs cells slots mls hl hol (okS_t hos) hH hz hc hs) (fun c => kf (fun z => c ((inR_gt0 hx).mpr z)) p e Rm s m args below meth _ Q n0 s0 C h1 h2 hK H locs cells slots mls hl hol (okS_t hos) hH hz hc hs)
theorem e_if_le {x : Int} {off : Int} {tgt : Nat} (hd : decode q.2.2.1 pc = .ok (.ifCond .le off, 3)) (ht : (pc : Int) + off = (tgt : Int)) (kt : (x ≤ 0) → Ev Γ d q tgt ls st h R) (kf : (¬ x ≤ 0) → Ev Γ d q (pc + 3) ls st h R) : Ev Γ d q pc ls (.inl x :: st) h R := by
  intro p e Rm s m args below meth c Q n0 s0 C h1 h2 hK H locs cells slots mls hl hol hos hH hz hc hs
  have hx : inR x := okS_h hos
  exact lv_if_le C.1 C.2.1 hd ht (fun c => kt ((inR_le0 hx).mp c) p e Rm s m args below meth _ Q n0 s0 C h1 h2 hK H locs cells slots mls hl hol (okS_t hos) hH hz hc hs) (fun c => kf (fun z => c ((inR_le0 hx).mpr z)) p e Rm s m args below meth _ Q n0 s0 C h1 h2 hK H locs cells slots mls hl hol (okS_t hos) hH hz hc hs)
theorem e_ic_eq {x y : Int} {off : Int} {tgt : Nat} (hd : decode q.2.2.1 pc = .ok (.if_icmp .eq off, 3)) (ht : (pc : Int) + off = (tgt : Int)) (kt : (x = y) → Ev Γ d q tgt ls st h R) (kf : (¬ x = y) → Ev Γ d q (pc + 3) ls st h R) : Ev Γ d q pc ls (.inl y :: .inl x :: st) h R := by
  intro p e Rm s m args below meth c Q n0 s0 C h1 h2 hK H locs cells slots mls hl hol hos hH hz hc hs
  have hy : inR y := okS_h hos
  have hx : inR x := okS_h (okS_t hos)
  exact lv_icmp_eq C.1 C.2.1 hd ht (fun c => kt ((inR_eq hx hy).mp c) p e Rm s m args below meth _ Q n0 s0 C h1 h2 hK H locs cells slots mls hl hol (okS_t (okS_t hos)) hH hz hc hs) (fun c => kf (fun z => c ((inR_eq hx hy).mpr z)) p e Rm s m args below meth _ Q n0 s0 C h1 h2 hK H locs cells slots mls hl hol (okS_t (okS_t hos)) hH hz hc hs)
theorem e_ic_ne {x y : Int} {off : Int} {tgt : Nat} (hd : decode q.2.2.1 pc = .ok (.if_icmp .ne off, 3)) (ht : (pc : Int) + off = (tgt : Int)) (kt : (¬ x = y) → Ev Γ d q tgt ls st h R) (kf : (x = y) → Ev Γ d q (pc + 3) ls st h R) : Ev Γ d q pc ls (.inl y :: .inl x :: st) h R := by
  intro p e Rm s m args below meth c Q n0 s0 C h1 h2 hK H locs cells slots mls hl hol hos hH hz hc hs
  have hy : inR y := okS_h hos
  have hx : inR x := okS_h (okS_t hos)
  exact lv_icmp_ne C.1 C.2.1 hd ht (fun c => kt (fun z => c ((inR_eq hx hy).mpr z)) p e Rm s m args below meth _ Q n0 s0 C h1 h2 hK H locs cells slots mls hl hol (okS_t (okS_t hos)) hH hz hc hs) (fun c => kf ((inR_eq hx hy).mp c) p e Rm s m args below meth _ Q n0 s0 C h1 h2 hK H locs cells slots mls hl hol (okS_t (okS_t hos)) hH hz hc hs)
theorem e_ic_lt {x y : Int} {off : Int} {tgt : Nat} (hd : decode q.2.2.1 pc = .ok (.if_icmp .lt off, 3)) (ht : (pc : Int) + off = (tgt : Int)) (kt : (x < y) → Ev Γ d q tgt ls st h R) (kf : (¬ x < y) → Ev Γ d q (pc + 3) ls st h R) : Ev Γ d q pc ls (.inl y :: .inl x :: st) h R := by
  intro p e Rm s m args below meth c Q n0 s0 C h1 h2 hK H locs cells slots mls hl hol hos hH hz hc hs
  have hy : inR y := okS_h hos
  have hx : inR x := okS_h (okS_t hos)
  exact lv_icmp_lt C.1 C.2.1 hd ht (fun c => kt ((inR_lt hx hy).mp c) p e Rm s m args below meth _ Q n0 s0 C h1 h2 hK H locs cells slots mls hl hol (okS_t (okS_t hos)) hH hz hc hs) (fun c => kf (fun z => c ((inR_lt hx hy).mpr z)) p e Rm s m args below meth _ Q n0 s0 C h1 h2 hK H locs cells slots mls hl hol (okS_t (okS_t hos)) hH hz hc hs)
theorem e_ic_ge {x y : Int} {off : Int} {tgt : Nat} (hd : decode q.2.2.1 pc = .ok (.if_icmp .ge off, 3)) (ht : (pc : Int) + off = (tgt : Int)) (kt : (y ≤ x) → Ev Γ d q tgt ls st h R) (kf : (¬ y ≤ x) → Ev Γ d q (pc + 3) ls st h R) : Ev Γ d q pc ls (.inl y :: .inl x :: st) h R := by
  intro p e Rm s m args below meth c Q n0 s0 C h1 h2 hK H locs cells slots mls hl hol hos hH hz hc hs
  have hy : inR y := okS_h hos
  have hx : inR x := okS_h (okS_t hos)
  exact lv_icmp_ge C.1 C.2.1 hd ht (fun c => kt ((inR_le hy hx).mp c) p e Rm s m args below meth _ Q n0 s0 C h1 h2 hK H locs cells slots mls hl hol (okS_t (okS_t hos)) hH hz hc hs) (fun c => kf (fun z => c ((inR_le hy hx).mpr z)) p e Rm s m args below meth _ Q n0 s0 C h1 h2 hK H locs cells slots mls hl hol (okS_t (okS_t hos)) hH hz hc hs)
theorem e_ic_gt {x y : Int} {off : Int} {tgt : Nat} (hd : decode q.2.2.1 pc = .ok (.if_icmp .gt off, 3)) (ht : (pc : Int) + off = (tgt : Int)) (kt : (y < x) → Ev Γ d q tgt ls st h R) (kf : (¬ y < x) → Ev Γ d q (pc + 3) ls st h R) : Ev Γ d q pc ls (.inl y :: .inl x :: st) h R := by
  intro p e Rm s m args below meth c Q n0 s0 C h1 h2 hK H locs cells slots mls hl hol hos hH hz hc hs
  have hy : inR y := okS_h hos
  have hx : inR x := okS_h (okS_t hos)
  exact lv_icmp_gt C.1 C.2.1 hd ht (fun c => kt ((inR_lt hy hx).mp c) p e Rm s m args below meth _ Q n0 s0 C h1 h2 hK H locs cells slots mls hl hol (okS_t (okS_t hos)) hH hz hc hs) (fun c => kf (fun z => c ((inR_lt hy hx).mpr z)) p e Rm s m args below meth _ Q n0 s0 C h1 h2 hK H locs cells slots mls hl hol (okS_t (okS_t hos)) hH hz hc hs)
theorem e_ic_le {x y : Int} {off : Int} {tgt : Nat} (hd : decode q.2.2.1 pc = .ok (.if_icmp .le off, 3)) (ht : (pc : Int) + off = (tgt : Int)) (kt : (x ≤ y) → Ev Γ d q tgt ls st h R) (kf : (¬ x ≤ y) → Ev Γ d q (pc + 3) ls st h R) : Ev Γ d q pc ls (.inl y :: .inl x :: st) h R := by
  intro p e Rm s m args below meth c Q n0 s0 C h1 h2 hK H locs cells slots mls hl hol hos hH hz hc hs
  have hy : inR y := okS_h hos
  have hx : inR x := okS_h (okS_t hos)
  exact lv_icmp_le C.1 C.2.1 hd ht (fun c => kt ((inR_le hx hy).mp c) p e Rm s m args below meth _ Q n0 s0 C h1 h2 hK H locs cells slots mls hl hol (okS_t (okS_t hos)) hH hz hc hs) (fun c => kf (fun z => c ((inR_le hx hy).mpr z)) p e Rm s m args below meth _ Q n0 s0 C h1 h2 hK H locs cells slots mls hl hol (okS_t (okS_t hos)) hH hz hc hs)
theorem e_tabIn {dflt lo hi : Int} {offs : Array Int} {len : Nat} {x off : Int} {tgt : Nat} (hd : decode q.2.2.1 pc = .ok (.tableswitch dflt lo hi offs, len)) (h1 : ¬ x < lo) (h2 : ¬ hi < x) (ho : offs[(x - lo).toNat]? = some off) (ht : (pc : Int) + off = (tgt : Int)) (k : Ev Γ d q tgt ls st h R) : Ev Γ d q pc ls (.inl x :: st) h R :=
  ev_of (fun _ _ _ _ _ _ _ _ _ _ _ _ _ _ _ C _ _ hos _ w => lv_tableIn C.1 C.2.1 hd (by rw [inR_t (okS_h hos)]; exact h1) (by rw [inR_t (okS_h hos)]; exact h2) (by rw [inR_t (okS_h hos)]; exact ho) ht w) (fun _ hs _ => okS_t hs) k
theorem e_tabOut {dflt lo hi : Int} {offs : Array Int} {len : Nat} {x : Int} {tgt : Nat} (hd : decode q.2.2.1 pc = .ok (.tableswitch dflt lo hi offs, len)) (h1 : x < lo ∨ hi < x) (ht : (pc : Int) + dflt = (tgt : Int)) (k : Ev Γ d q tgt ls st h R) : Ev Γ d q pc ls (.inl x :: st) h R :=
  ev_of (fun _ _ _ _ _ _ _ _ _ _ _ _ _ _ _ C _ _ hos _ w => lv_tableOut C.1 C.2.1 hd (by rw [inR_t (okS_h hos)]; exact h1) ht w) (fun _ hs _ => okS_t hs) k
theorem e_look {dflt : Int} {ps : Array (Int × Int)} {len : Nat} {x off : Int} {tgt : Nat} (hd : decode q.2.2.1 pc = .ok (.lookupswitch dflt ps, len)) (hp : (ps.toList.zip (ps.toList.drop 1)).all (fun (a, next) => a.1 < next.1) = true) (ho : Op.lookupswitch.offset ps.toList dflt x = off) (ht : (pc : Int) + off = (tgt : Int)) (k : Ev Γ d q tgt ls st h R) : Ev Γ d q pc ls (.inl x :: st) h R :=
  ev_of (fun _ _ _ _ _ _ _ _ _ _ _ _ _ _ _ C _ _ hos _ w => lv_lookup C.1 C.2.1 hd hp (by rw [inR_t (okS_h hos)]; exact ho) ht w) (fun _ hs _ => okS_t hs) k
/-! locals -/
def lvp (Γ : GX) : Nat → List (Option AV) → List (Nat × Value)
  | _, [] => []
  | i, none :: r => lvp Γ (i + 1) r
  | i, some v :: r => (i, gV Γ v) :: lvp Γ (i + 1) r
theorem lvp_mem (ls : List (Option AV)) : ∀ (i : Nat) (z : Nat × Value), z ∈ lvp Γ i ls ↔ ∃ (j : Nat) (v : AV), ls[j]? = some (some v) ∧ z = (i + j, gV Γ v) := by
  induction ls with
  | nil => intro i z; simp [lvp]
  | cons a r ih =>
    intro i z
    cases a with
    | none =>
      simp only [lvp]
      rw [ih]
      constructor
      · rintro ⟨j, v, hj, rfl⟩
        exact ⟨j + 1, v, by simpa using hj, by simp; omega⟩
      · rintro ⟨j, v, hj, rfl⟩
        cases j with
        | zero => simp at hj
        | succ j => exact ⟨j, v, by simpa using hj, by simp; omega⟩
    | some v =>
      simp only [lvp, List.mem_cons]
      rw [ih]
      constructor
      · rintro (rfl | ⟨j, w, hj, rfl⟩)
        · exact ⟨0, v, by simp, by simp⟩
        · exact ⟨j + 1, w, by simpa using hj, by simp; omega⟩
      · rintro ⟨j, w, hj, rfl⟩
        cases j with
        | zero =>
          simp at hj
          subst hj
          exact Or.inl (by simp)
        | succ j => exact Or.inr ⟨j, w, by simpa using hj, by simp; omega⟩
theorem LR.has {n : Nat} {mls : Array Slot} (hl : LR Γ n mls ls) : lv_has mls n (lvp Γ 0 ls) := by
  refine ⟨hl.1, hl.2.1, fun z hz => ?_⟩
  obtain ⟨j, v, hj, rfl⟩ := (lvp_mem ls 0 z).mp hz
  simpa using hl.2.2.2 j v hj
theorem LR.set {n : Nat} {mls : Array Slot} {i : Nat} {v : AV} (hl : LR Γ n mls ls) {mls' : Array Slot} (h' : lv_has mls' n ((i, gV Γ v) :: (lvp Γ 0 ls).filter (fun z => !(z.1 == i) && !(z.1 + 1 == i && z.2.category == 2)))) : LR Γ n mls' (ls.set i (some v)) := by
  refine ⟨h'.1, h'.2.1, by rw [List.length_set]; exact hl.2.2.1, fun j w hj => ?_⟩
  rw [List.getElem?_set] at hj
  by_cases e : i = j
  · subst e
    rw [if_pos rfl] at hj
    split at hj
    · cases hj
      exact h'.2.2 _ List.mem_cons_self
    · cases hj
  · rw [if_neg e] at hj
    refine h'.2.2 (j, gV Γ w) (List.mem_cons_of_mem _ (List.mem_filter.mpr ⟨(lvp_mem ls 0 _).mpr ⟨j, w, hj, by simp⟩, ?_⟩))
    simp [gV_cat, Ne.symm e]
theorem okl_set {i : Nat} {v : AV} (hl : okl ls) (hv : okv v) : okl (ls.set i (some v)) := fun w hw => by
  rcases List.mem_or_eq_of_mem_set hw with hw | hw
  · exact hl w hw
  · cases hw
    exact hv
/-- an instruction that sets a local -/
theorem ev_ls {i : Nat} {v : AV} (hi : i < q.2.2.2.1) (f : ∀ (p : Program) (e : Env) (Rm : Room) (s : State) (m : MethodId) (args : Array Value) (below : List Frame) (meth : Method) (c : Code) (Q : State → Prop) (H : Heap) (locs : List Loc) (cells slots : Nat) (mls : Array Slot),
      Cx Γ d q p Rm s m args meth c → LR Γ q.2.2.2.1 mls ls → (∀ mls' : Array Slot, lv_has mls' q.2.2.2.1 ((i, gV Γ v) :: (lvp Γ 0 ls).filter (fun z => !(z.1 == i) && !(z.1 + 1 == i && z.2.category == 2))) → W p (gl Γ) e Rm s m args below meth c H locs cells slots Q (F0 m pc' mls' (st'.map (gV Γ)))) → W p (gl Γ) e Rm s m args below meth c H locs cells slots Q (F0 m pc mls (st.map (gV Γ))))
    (hok : okl ls → okS st → okv v ∧ okS st') (hs' : ls.set i (some v) = ls') (k : Ev Γ d q pc' ls' st' h R) : Ev Γ d q pc ls st h R := by
  intro p e Rm s m args below meth c Q n0 s0 C h1 h2 hK H locs cells slots mls hl hol hos hH hz hc hs
  subst hs'
  exact f p e Rm s m args below meth c Q H locs cells slots mls C hl (fun mls' h' => k p e Rm s m args below meth c Q n0 s0 C h1 h2 hK H locs cells slots mls' (hl.set h') (okl_set hol (hok hol hos).1) (hok hol hos).2 hH hz hc hs)
theorem e_istore_n {j : Fin 4} {x : Int} (hd : decode q.2.2.1 pc = .ok (.istore_n j, 1)) (hi : j.val < q.2.2.2.1) (hs' : ls.set j.val (some (.inl x)) = ls') (k : Ev Γ d q (pc + 1) ls' st h R) : Ev Γ d q pc ls (.inl x :: st) h R :=
  ev_ls (v := .inl x) (pc' := pc + 1) (st' := st) hi (fun _ _ _ _ _ _ _ _ _ _ _ _ _ _ _ C hl w => lv_istore_n C.1 C.2.1 hd rfl hl.has hi rfl w) (fun _ hs => ⟨okS_h hs, okS_t hs⟩) hs' k
theorem e_istore {i : Nat} {x : Int} (hd : decode q.2.2.1 pc = .ok (.istore i, 2)) (hi : i < q.2.2.2.1) (hs' : ls.set i (some (.inl x)) = ls') (k : Ev Γ d q (pc + 2) ls' st h R) : Ev Γ d q pc ls (.inl x :: st) h R :=
  ev_ls (v := .inl x) (pc' := pc + 2) (st' := st) hi (fun _ _ _ _ _ _ _ _ _ _ _ _ _ _ _ C hl w => lv_istore C.1 C.2.1 hd hl.has hi rfl w) (fun _ hs => ⟨okS_h hs, okS_t hs⟩) hs' k
theorem e_astore_n {j : Fin 4} {a : Nat} (hd : decode q.2.2.1 pc = .ok (.astore_n j, 1)) (hi : j.val < q.2.2.2.1) (hs' : ls.set j.val (some (.inr (some a))) = ls') (k : Ev Γ d q (pc + 1) ls' st h R) : Ev Γ d q pc ls (.inr (some a) :: st) h R :=
  ev_ls (v := .inr (some a)) (pc' := pc + 1) (st' := st) hi (fun _ _ _ _ _ _ _ _ _ _ _ _ _ _ _ C hl w => lv_astore_n C.1 C.2.1 hd rfl hl.has hi rfl w) (fun _ hs => ⟨okS_h hs, okS_t hs⟩) hs' k
theorem e_iinc {i : Nat} {n x : Int} (hd : decode q.2.2.1 pc = .ok (.iinc i n, 3)) (hi : i < q.2.2.2.1) (hx : ls[i]? = some (some (.inl x))) (hr : inR (x + n)) (hs' : ls.set i (some (.inl (x + n))) = ls') (k : Ev Γ d q (pc + 3) ls' st h R) : Ev Γ d q pc ls st h R :=
  ev_ls (v := .inl (x + n)) (pc' := pc + 3) (st' := st) hi (fun _ _ _ _ _ _ _ _ _ _ _ _ _ _ _ C hl w => by
    obtain ⟨k, hk⟩ := List.getElem?_of_mem ((lvp_mem (Γ := Γ) ls 0 (i, gV Γ (.inl x))).mpr ⟨i, _, hx, by simp⟩)
    exact lv_iinc C.1 C.2.1 hd hl.has hk (v := Int32.ofInt (x + n)) (Int32.ofInt_add x n).symm hi rfl w) (fun _ hs => ⟨hr, hs⟩) hs' k
end EV
end
section
/-! ===== cells ===== -/
section HRS
variable {Γ : GX}
theorem gV_ref {a : Nat} (ha : 0 < a) : gV Γ (.inr (some a)) = .ref (gB Γ + (a - 1)) := by
  show Value.ref (if a = 0 then gb Γ else gB Γ + (a - 1)) = _
  rw [if_neg (by omega)]
def iT (ty : FieldType) : Bool := match ty with
  | .int => true
  | .boolean => true
  | .byte => true
  | _ => false
def rT (ty : FieldType) : Bool := match ty with
  | .object _ => true
  | .array _ => true
  | _ => false
theorem sv_i {h : AH} {ty : FieldType} {a k : Nat} (ht : iT ty = true) : sv Γ h ty a k = gV Γ (.inl (h.2 a k)) := by
  cases ty <;> first | rfl | cases ht
theorem sv_r {h : AH} {ty : FieldType} {a k : Nat} (ht : rT ty = true) : sv Γ h ty a k = gV Γ (.inr (h.1.2.1 a k)) := by
  cases ty <;> first | rfl | cases ht
theorem HR.upd {h h' : AH} {H H' : Heap} {a : Nat} (hH : HR Γ h H) (ha : 0 < a) (hS : h'.1.1 = h.1.1) (hz : H'.size = H.size) (ho : ∀ z : Nat, z ≠ gB Γ + (a - 1) → H'[z]? = H[z]?)
    (hsv : ∀ b : Nat, b ≠ a → ∀ (ty : FieldType) (j : Nat), sv Γ h' ty b j = sv Γ h ty b j) (hR : ∀ b j : Nat, inR (h'.2 b j))
    (hob : ∀ ci : Nat, h.1.1[a]? = some (.inl ci) → ci < 9 ∧ t_OB (gB Γ + (a - 1)) ((gD Γ).1 ci) (cF ci) ((gD Γ).2 ci) H' (fun k => sv Γ h' (cy ci k) a k))
    (har : ∀ (ty : FieldType) (n : Nat), h.1.1[a]? = some (.inr (ty, n)) → H'[gB Γ + (a - 1)]? = some (arrV (gA Γ ty) n (fun k => sv Γ h' ty a k))) : HR Γ h' H' := by
  obtain ⟨h1, h2, h3, h4, h5, h6⟩ := hH
  refine ⟨by rw [hS, hz]; exact h1, by rw [hS, hz]; exact h2, fun z hq => ?_, fun b ci hb hs => ?_, fun b ty n hb hs => ?_, hR⟩
  · rw [ho z (by omega)]
    exact h3 z hq
  · rw [hS] at hs
    by_cases e : b = a
    · subst e
      exact hob ci hs
    · obtain ⟨g1, g2⟩ := h4 b ci hb hs
      refine ⟨g1, (g2.kept (ho _ (by omega))).to fun k _ => ?_⟩
      rw [hsv b e]
  · rw [hS] at hs
    by_cases e : b = a
    · subst e
      exact har ty n hs
    · rw [ho _ (by omega), h5 b ty n hb hs]
      congr 2
      funext j
      rw [hsv b e]
/-- a whole number is stored -/
abbrev hI (h : AH) (a k : Nat) (x : Int) : AH := (h.1, mset h.2 a k x)
/-- a reference is stored -/
abbrev hP (h : AH) (a k : Nat) (r : Option Nat) : AH := ((h.1.1, mset h.1.2.1 a k r, h.1.2.2), h.2)
theorem sv_hI {h : AH} {a k : Nat} {x : Int} {b : Nat} (hb : b ≠ a) (ty : FieldType) (j : Nat) : sv Γ (hI h a k x) ty b j = sv Γ h ty b j := by
  cases ty <;> simp only [sv, hI, mset_a _ _ hb]
theorem sv_hIk {h : AH} {a k : Nat} {x : Int} {b : Nat} (ty : FieldType) {j : Nat} (hj : j ≠ k) : sv Γ (hI h a k x) ty b j = sv Γ h ty b j := by
  cases ty <;> simp only [sv, hI, mset_k _ _ hj]
theorem sv_hIs {h : AH} {a k : Nat} {x : Int} {ty : FieldType} (ht : iT ty = true) : sv Γ (hI h a k x) ty a k = gV Γ (.inl x) := by
  rw [sv_i ht]
  simp only [hI, mset_s]
theorem sv_hP {h : AH} {a k : Nat} {r : Option Nat} {b : Nat} (hb : b ≠ a) (ty : FieldType) (j : Nat) : sv Γ (hP h a k r) ty b j = sv Γ h ty b j := by
  cases ty <;> simp only [sv, hP, mset_a _ _ hb]
theorem sv_hPk {h : AH} {a k : Nat} {r : Option Nat} {b : Nat} (ty : FieldType) {j : Nat} (hj : j ≠ k) : sv Γ (hP h a k r) ty b j = sv Γ h ty b j := by
  cases ty <;> simp only [sv, hP, mset_k _ _ hj]
theorem sv_hPs {h : AH} {a k : Nat} {r : Option Nat} {ty : FieldType} (ht : rT ty = true) : sv Γ (hP h a k r) ty a k = gV Γ (.inr r) := by
  rw [sv_r ht]
  simp only [hP, mset_s]
theorem inR_mset {f : Nat → Nat → Int} {a k : Nat} {x : Int} (hf : ∀ b j : Nat, inR (f b j)) (hx : inR x) : ∀ b j : Nat, inR (mset f a k x b j) := by
  intro b j
  unfold mset
  split
  · exact hx
  · exact hf b j
end HRS
section EVH
variable {Γ : GX} {d : Nat} {q : MI} {pc pc' : Nat} {ls ls' : List (Option AV)} {st st' : List AV} {h : AH} {R : AR} {a ci k idx : Nat}
theorem e_getf {v : AV} (hd : decode q.2.2.1 pc = .ok (.getfield idx, 3)) (hf : FOk q.1 idx ci k) (ha : 0 < a) (hs : h.1.1[a]? = some (.inl ci)) (hv : sv Γ h (cy ci k) a k = gV Γ v) (hok : (∀ b j : Nat, inR (h.2 b j)) → okv v) (kk : Ev Γ d q (pc + 3) ls (v :: st) h R) : Ev Γ d q pc ls (.inr (some a) :: st) h R := by
  refine ev_of (fun p e Rm s m args below meth c Q H locs cells slots mls C hl hol hos hH w => ?_) (fun _ hs hi => okS_c (hok hi) (okS_t hs)) kk
  obtain ⟨hci, cell, q1, q2, q3, q4⟩ := hH.2.2.2.1 a ci ha hs
  obtain ⟨hx, hb, hml, hown, hts, hr, hlk, hnm, hKS, hd1, hd2⟩ := C
  obtain ⟨hS, hfc, kC, hkC, hkind⟩ := hKS.1.1 ci _ (cl_at hci)
  obtain ⟨cf, kf, fi, f, hi, hsl⟩ := hS k hf.2.1
  have hst := (u_facts hfc hkC (u_lays hts (cw_ok hci) hf.2.1) hi).1
  have hslot : cell.slots[f.slot]? = some (gV Γ v) := by rw [hsl, q4 k hf.2.1]; exact congrArg some hv
  show W p (gl Γ) e Rm s m args below meth c H locs cells slots Q (F0 m pc mls (gV Γ (.inr (some a)) :: st.map (gV Γ)))
  rw [gV_ref ha]
  rcases hf.2.2 with hl1 | ⟨host, hl1⟩
  · exact W.getf hx hb hown (hts _ hl1) hi hst q1 (by rw [q3]; exact fun h => by cases h) hslot rfl rfl hd w
  · exact va_Wgetf hx hb hown (va_Nw.use rfl (hKS.2.2.1 _ hl1)) hi hst q1 (by rw [q3]; exact fun h => by cases h) hslot rfl rfl hd w
theorem e_geti (hd : decode q.2.2.1 pc = .ok (.getfield idx, 3)) (hf : FOk q.1 idx ci k) (ha : 0 < a) (hs : h.1.1[a]? = some (.inl ci)) (ht : iT (cy ci k) = true) (kk : Ev Γ d q (pc + 3) ls (.inl (h.2 a k) :: st) h R) : Ev Γ d q pc ls (.inr (some a) :: st) h R :=
  e_getf (v := .inl (h.2 a k)) hd hf ha hs (sv_i ht) (fun hi => hi a k) kk
theorem e_getr {b : Nat} (hd : decode q.2.2.1 pc = .ok (.getfield idx, 3)) (hf : FOk q.1 idx ci k) (ha : 0 < a) (hs : h.1.1[a]? = some (.inl ci)) (ht : rT (cy ci k) = true) (hp : h.1.2.1 a k = some b) (kk : Ev Γ d q (pc + 3) ls (.inr (some b) :: st) h R) : Ev Γ d q pc ls (.inr (some a) :: st) h R :=
  e_getf (v := .inr (some b)) hd hf ha hs (by rw [sv_r ht, hp]) (fun _ => trivial) kk
/-- putfield, of a field that isn't final -/
theorem e_put {v : AV} {h' : AH} (hd : decode q.2.2.1 pc = .ok (.putfield idx, 3)) (hf : FOk q.1 idx ci k) (ha : 0 < a) (hs : h.1.1[a]? = some (.inl ci)) (hfin : (cT ci k).2.2.2 = false) (hn : narrow (cy ci k) (gV Γ v) = gV Γ v) (hfit : fits (cy ci k) (gV Γ v) = true)
    (hS : h'.1.1 = h.1.1) (hc1 : h'.1.2.2.2 = h.1.2.2.2) (hsv : ∀ b : Nat, b ≠ a → ∀ (ty : FieldType) (j : Nat), sv Γ h' ty b j = sv Γ h ty b j) (hsk : ∀ (ty : FieldType) (j : Nat), j ≠ k → sv Γ h' ty a j = sv Γ h ty a j) (hss : sv Γ h' (cy ci k) a k = gV Γ v)
    (hR : (∀ b j : Nat, inR (h.2 b j)) → okv v → ∀ b j : Nat, inR (h'.2 b j)) (kk : Ev Γ d q (pc + 3) ls st h' R) : Ev Γ d q pc ls (v :: .inr (some a) :: st) h R := by
  intro p e Rm s m args below meth c Q n0 s0 C h1 h2 hK H locs cells slots mls hl hol hos hH hz hc hsl
  obtain ⟨hci, cell, q1, q2, q3, q4⟩ := hH.2.2.2.1 a ci ha hs
  have C' := C
  obtain ⟨hx, hb, hml, hown, hts, hr, hlk, hnm, hKS, hd1, hd2⟩ := C
  have hap := va_apart (own := cN q.1) hts (cw_ok hci) (cy ci) (cy_ok hci) (cn_ok hci) hKS.1 (cl_at hci)
  obtain ⟨hS2, hfc, kC, hkC, hkind⟩ := hKS.1.1 ci _ (cl_at hci)
  obtain ⟨cf, kf, fi, f, hi, hsl2⟩ := hS2 k hf.2.1
  have hlay := hts _ (cw_ok hci _ (u_in_lay hf.2.1))
  unfold u_lay at hlay
  rw [if_neg (by rw [hfin]; decide)] at hlay
  have hst := (u_facts hfc hkC (u_lays hts (cw_ok hci) hf.2.1) hi).1
  have h6 := u_store hfc hkC hkind hlay hi (cy_ok hci k hf.2.1) hn hfit
  show W p (gl Γ) e Rm s m args below meth c H locs cells slots Q (F0 m pc mls (gV Γ v :: gV Γ (.inr (some a)) :: st.map (gV Γ)))
  rw [gV_ref ha]
  have fin : ∀ H' : Heap, H'[gB Γ + (a - 1)]? = some (cell.setSlot f.slot (gV Γ v)) → H'.size = H.size → (∀ z, z ≠ gB Γ + (a - 1) → H'[z]? = H[z]?) → W p (gl Γ) e Rm s m args below meth c H' (locs ++ [⟨gB Γ + (a - 1), f.slot⟩]) cells slots Q (F0 m (pc + 3) mls (st.map (gV Γ))) := by
    intro H' e1 e2 e3
    refine kk p e Rm s m args below meth c Q n0 s0 C' h1 h2 hK H' _ cells slots mls hl hol (okS_t (okS_t hos)) (hH.upd ha hS e2 e3 hsv (hR hH.2.2.2.2.2 (okS_h hos)) (fun ci' hs' => ?_) (fun ty n hs' => ?_)) (fun z hz' => ?_) (by rw [hc1]; exact hc) (by rw [hc1]; exact hsl)
    · rw [hs] at hs'
      cases hs'
      rw [hsl2] at e1
      refine ⟨hci, t_OB.to (V := updV (fun j => sv Γ h (cy ci j) a j) k (gV Γ v)) ⟨_, e1, q2, q3, t_set q4 hap hf.2.1 _⟩ (fun j _ => ?_)⟩
      by_cases e : j = k
      · subst e
        simp only [updV, if_pos]
        exact hss.symm
      · simp only [updV, if_neg e]
        exact (hsk _ _ e).symm
    · rw [hs] at hs'
      cases hs'
    · rcases List.mem_append.mp hz' with hz' | hz'
      · exact hz z hz'
      · rw [List.mem_singleton.mp hz']
        show gB Γ ≤ gB Γ + (a - 1)
        omega
  rcases hf.2.2 with hl1 | ⟨host, hl1⟩
  · exact W.putK hx hb (f := f) ⟨hown, hts _ hl1, ⟨_, _, _, hi⟩, hst⟩ (by rw [q2]; exact h6) q1 q3 (by rw [hsl2]; exact k2_hasslot (q4 k hf.2.1)) rfl rfl hd fin
  · exact va_WputK hx hb (f := f) hown (va_Nw.use rfl (hKS.2.2.1 _ hl1)) hi hst (by rw [q2]; exact h6) q1 q3 (by rw [hsl2]; exact k2_hasslot (q4 k hf.2.1)) rfl rfl hd fin
theorem e_puti {x : Int} (hd : decode q.2.2.1 pc = .ok (.putfield idx, 3)) (hf : FOk q.1 idx ci k) (ha : 0 < a) (hs : h.1.1[a]? = some (.inl ci)) (hfin : (cT ci k).2.2.2 = false) (hty : cy ci k = .int) (kk : Ev Γ d q (pc + 3) ls st (hI h a k x) R) : Ev Γ d q pc ls (.inl x :: .inr (some a) :: st) h R :=
  e_put (h' := hI h a k x) hd hf ha hs hfin (by rw [hty]; rfl) (by rw [hty]; rfl) rfl rfl (fun b hb => sv_hI hb) (fun ty j hj => sv_hIk ty hj) (sv_hIs (by rw [hty]; rfl)) (fun hi hv => inR_mset hi hv) kk
theorem bool_n {x : Int} (hx : x = 0 ∨ x = 1) : narrow .boolean (.int (Int32.ofInt x)) = .int (Int32.ofInt x) := by
  rcases hx with rfl | rfl <;> decide
theorem bool_f {x : Int} (hx : x = 0 ∨ x = 1) : fits .boolean (.int (Int32.ofInt x)) = true := by
  rcases hx with rfl | rfl <;> decide
theorem e_putz {x : Int} (hd : decode q.2.2.1 pc = .ok (.putfield idx, 3)) (hf : FOk q.1 idx ci k) (ha : 0 < a) (hs : h.1.1[a]? = some (.inl ci)) (hfin : (cT ci k).2.2.2 = false) (hty : cy ci k = .boolean) (hx : x = 0 ∨ x = 1) (kk : Ev Γ d q (pc + 3) ls st (hI h a k x) R) : Ev Γ d q pc ls (.inl x :: .inr (some a) :: st) h R :=
  e_put (h' := hI h a k x) hd hf ha hs hfin (by rw [hty]; exact bool_n hx) (by rw [hty]; exact bool_f hx) rfl rfl (fun b hb => sv_hI hb) (fun ty j hj => sv_hIk ty hj) (sv_hIs (by rw [hty]; rfl)) (fun hi hv => inR_mset hi hv) kk
theorem ref_n {ty : FieldType} (ht : rT ty = true) (r : Option Nat) : narrow ty (gV Γ (.inr r)) = gV Γ (.inr r) := by
  cases ty <;> first | (cases r <;> rfl) | cases ht
theorem ref_f {ty : FieldType} (ht : rT ty = true) (r : Option Nat) : fits ty (gV Γ (.inr r)) = true := by
  cases ty <;> first | (cases r <;> rfl) | cases ht
theorem e_putr {b : Nat} (hd : decode q.2.2.1 pc = .ok (.putfield idx, 3)) (hf : FOk q.1 idx ci k) (ha : 0 < a) (hs : h.1.1[a]? = some (.inl ci)) (hfin : (cT ci k).2.2.2 = false) (ht : rT (cy ci k) = true) (kk : Ev Γ d q (pc + 3) ls st (hP h a k (some b)) R) : Ev Γ d q pc ls (.inr (some b) :: .inr (some a) :: st) h R :=
  e_put (h' := hP h a k (some b)) hd hf ha hs hfin (ref_n ht _) (ref_f ht _) rfl rfl (fun b hb => sv_hP hb) (fun ty j hj => sv_hPk ty hj) (sv_hPs ht) (fun hi _ => hi) kk
/-! arrays -/
theorem in_ok {i : Int} {n : Nat} (hi : inR i) (h0 : 0 ≤ i) (h1 : i < n) : ¬ (Int32.ofInt i < 0 ∨ n ≤ (Int32.ofInt i).toNatClampNeg) := by
  rw [inR_lt0 hi, inR_cl hi]
  omega
theorem e_ald {i : Int} {n : Nat} {ty : FieldType} {v : AV} {ins : Instr}
    (row : ∀ (p : Program) (e : Env) (Rm : Room) (s : State) (m : MethodId) (args : Array Value) (below : List Frame) (meth : Method) (c : Code) (Q : State → Prop) (H : Heap) (locs : List Loc) (cells slots : Nat) (mls : Array Slot) (cell : Cell), Cx Γ d q p Rm s m args meth c → H[gB Γ + (a - 1)]? = some cell → s.isArrayOf cell ty → cell.vm ≠ .unknown → ¬ (Int32.ofInt i < 0 ∨ cell.slots.size ≤ (Int32.ofInt i).toNatClampNeg) → cell.slots[(Int32.ofInt i).toNatClampNeg]? = some (gV Γ v) →
      W p (gl Γ) e Rm s m args below meth c H locs cells slots Q (F0 m (pc + 1) mls (gV Γ v :: st.map (gV Γ))) → W p (gl Γ) e Rm s m args below meth c H locs cells slots Q (F0 m pc mls (.int (Int32.ofInt i) :: .ref (gB Γ + (a - 1)) :: st.map (gV Γ))))
    (hty : ty ∈ aTy) (ha : 0 < a) (hs : h.1.1[a]? = some (.inr (ty, n))) (h0 : 0 ≤ i) (h1 : i < n) (hv : sv Γ h ty a i.toNat = gV Γ v) (hok : (∀ b j : Nat, inR (h.2 b j)) → okv v) (kk : Ev Γ d q (pc + 1) ls (v :: st) h R) : Ev Γ d q pc ls (.inl i :: .inr (some a) :: st) h R := by
  refine ev_of (fun p e Rm s m args below meth c Q H locs cells slots mls C hl hol hos hH w => ?_) (fun _ hs hi => okS_c (hok hi) (okS_t (okS_t hs))) kk
  have hi : inR i := okS_h hos
  have hcell := hH.2.2.2.2.1 a ty n ha hs
  show W p (gl Γ) e Rm s m args below meth c H locs cells slots Q (F0 m pc mls (.int (Int32.ofInt i) :: gV Γ (.inr (some a)) :: st.map (gV Γ)))
  rw [gV_ref ha]
  refine row p e Rm s m args below meth c Q H locs cells slots mls _ C hcell ((C.2.2.2.2.2.2.2.2.1.2.1 ty hty).1 n _) (fun z => by cases z) (by rw [arrV_size]; exact in_ok hi h0 h1) ?_ w
  rw [inR_cl hi, arrV_read _ _ (by omega), hv]
theorem e_iald {i : Int} {n : Nat} (hd : decode q.2.2.1 pc = .ok (.iaload, 1)) (ha : 0 < a) (hs : h.1.1[a]? = some (.inr (.int, n))) (h0 : 0 ≤ i) (h1 : i < n) (kk : Ev Γ d q (pc + 1) ls (.inl (h.2 a i.toNat) :: st) h R) : Ev Γ d q pc ls (.inl i :: .inr (some a) :: st) h R :=
  e_ald (ty := .int) (ins := .iaload) (v := .inl (h.2 a i.toNat)) (fun _ _ _ _ _ _ _ _ _ _ _ _ _ _ _ _ C h1 h2 h3 h4 h5 w => W.iald C.1 C.2.1 h1 h2 h3 h4 h5 rfl rfl hd w) (by decide) ha hs h0 h1 rfl (fun hi => hi _ _) kk
theorem e_bald {i : Int} {n : Nat} (hd : decode q.2.2.1 pc = .ok (.baload, 1)) (ha : 0 < a) (hs : h.1.1[a]? = some (.inr (.byte, n))) (h0 : 0 ≤ i) (h1 : i < n) (kk : Ev Γ d q (pc + 1) ls (.inl (h.2 a i.toNat) :: st) h R) : Ev Γ d q pc ls (.inl i :: .inr (some a) :: st) h R :=
  e_ald (ty := .byte) (ins := .iaload) (v := .inl (h.2 a i.toNat)) (fun _ _ _ _ _ _ _ _ _ _ _ _ _ _ _ _ C h1 h2 h3 h4 h5 w => W.bald C.1 C.2.1 h1 h2 h3 h4 h5 rfl rfl hd w) (by decide) ha hs h0 h1 rfl (fun hi => hi _ _) kk
theorem e_zald {i : Int} {n : Nat} (hd : decode q.2.2.1 pc = .ok (.baload, 1)) (ha : 0 < a) (hs : h.1.1[a]? = some (.inr (.boolean, n))) (h0 : 0 ≤ i) (h1 : i < n) (kk : Ev Γ d q (pc + 1) ls (.inl (h.2 a i.toNat) :: st) h R) : Ev Γ d q pc ls (.inl i :: .inr (some a) :: st) h R :=
  e_ald (ty := .boolean) (ins := .iaload) (v := .inl (h.2 a i.toNat)) (fun _ _ _ _ _ _ _ _ _ _ _ _ _ _ _ _ C h1 h2 h3 h4 h5 w => W.zald C.1 C.2.1 h1 h2 h3 h4 h5 rfl rfl hd w) (by decide) ha hs h0 h1 rfl (fun hi => hi _ _) kk
theorem e_aald {i : Int} {n b : Nat} (hd : decode q.2.2.1 pc = .ok (.aaload, 1)) (ha : 0 < a) (hs : h.1.1[a]? = some (.inr (.array .int, n))) (h0 : 0 ≤ i) (h1 : i < n) (hp : h.1.2.1 a i.toNat = some b) (kk : Ev Γ d q (pc + 1) ls (.inr (some b) :: st) h R) : Ev Γ d q pc ls (.inl i :: .inr (some a) :: st) h R :=
  e_ald (ty := .array .int) (ins := .aaload) (v := .inr (some b)) (fun _ _ _ _ _ _ _ _ _ _ _ _ _ _ _ _ C h1 h2 h3 h4 h5 w => W.aald C.1 C.2.1 h1 h2 rfl h3 h4 h5 rfl rfl hd w) (by decide) ha hs h0 h1 (by rw [sv_r rfl, hp]) (fun _ => trivial) kk
theorem e_alen {n : Nat} {ty : FieldType} (hd : decode q.2.2.1 pc = .ok (.arraylength, 1)) (hty : ty ∈ aTy) (ha : 0 < a) (hs : h.1.1[a]? = some (.inr (ty, n))) (hn : (n : Int) < 2147483648) (kk : Ev Γ d q (pc + 1) ls (.inl (n : Int) :: st) h R) : Ev Γ d q pc ls (.inr (some a) :: st) h R := by
  refine ev_of (fun p e Rm s m args below meth c Q H locs cells slots mls C hl hol hos hH w => ?_) (fun _ hs hi => okS_i (show inR (n : Int) from ⟨by omega, hn⟩) (okS_t hs)) kk
  have hcell := hH.2.2.2.2.1 a ty n ha hs
  show W p (gl Γ) e Rm s m args below meth c H locs cells slots Q (F0 m pc mls (gV Γ (.inr (some a)) :: st.map (gV Γ)))
  rw [gV_ref ha]
  refine W.alen (n := Int32.ofInt (n : Int)) C.1 C.2.1 hcell ((C.2.2.2.2.2.2.2.2.1.2.1 ty hty).1 n _) ?_ rfl rfl hd w
  rw [arrV_size, Int32.ofInt_eq_ofNat]
theorem e_ast {i x : Int} {n : Nat} {ty : FieldType} {y : Int}
    (row : ∀ (p : Program) (e : Env) (Rm : Room) (s : State) (m : MethodId) (args : Array Value) (below : List Frame) (meth : Method) (c : Code) (Q : State → Prop) (H : Heap) (locs : List Loc) (cells slots : Nat) (mls : Array Slot) (cell : Cell), Cx Γ d q p Rm s m args meth c → H[gB Γ + (a - 1)]? = some cell → s.isArrayOf cell ty → cell.vm ≠ .unknown → ¬ (Int32.ofInt i < 0 ∨ cell.slots.size ≤ (Int32.ofInt i).toNatClampNeg) →
      (∀ H' : Heap, H'[gB Γ + (a - 1)]? = some (cell.setSlot (Int32.ofInt i).toNatClampNeg (gV Γ (.inl y))) → H'.size = H.size → (∀ z, z ≠ gB Γ + (a - 1) → H'[z]? = H[z]?) → W p (gl Γ) e Rm s m args below meth c H' (locs ++ [⟨gB Γ + (a - 1), (Int32.ofInt i).toNatClampNeg⟩]) cells slots Q (F0 m (pc + 1) mls (st.map (gV Γ)))) →
      W p (gl Γ) e Rm s m args below meth c H locs cells slots Q (F0 m pc mls (.int (Int32.ofInt x) :: .int (Int32.ofInt i) :: .ref (gB Γ + (a - 1)) :: st.map (gV Γ))))
    (hty : ty ∈ aTy) (hi2 : iT ty = true) (ha : 0 < a) (hs : h.1.1[a]? = some (.inr (ty, n))) (h0 : 0 ≤ i) (h1 : i < n) (hy : inR x → inR y) (kk : Ev Γ d q (pc + 1) ls st (hI h a i.toNat y) R) : Ev Γ d q pc ls (.inl x :: .inl i :: .inr (some a) :: st) h R := by
  intro p e Rm s m args below meth c Q n0 s0 C g1 g2 hK H locs cells slots mls hl hol hos hH hz hc hsl
  have hx : inR x := okS_h hos
  have hi : inR i := okS_h (okS_t hos)
  have hcell := hH.2.2.2.2.1 a ty n ha hs
  show W p (gl Γ) e Rm s m args below meth c H locs cells slots Q (F0 m pc mls (.int (Int32.ofInt x) :: .int (Int32.ofInt i) :: gV Γ (.inr (some a)) :: st.map (gV Γ)))
  rw [gV_ref ha]
  refine row p e Rm s m args below meth c Q H locs cells slots mls _ C hcell ((C.2.2.2.2.2.2.2.2.1.2.1 ty hty).1 n _) (fun z => by cases z) (by rw [arrV_size]; exact in_ok hi h0 h1) (fun H' e1 e2 e3 => ?_)
  refine kk p e Rm s m args below meth c Q n0 s0 C g1 g2 hK H' _ cells slots mls hl hol (okS_t (okS_t (okS_t hos))) (hH.upd (h' := hI h a i.toNat y) ha rfl e2 e3 (fun b hb => sv_hI hb) (inR_mset hH.2.2.2.2.2 (hy hx)) (fun ci' hs' => ?_) (fun ty' n' hs' => ?_)) (fun z hz' => ?_) hc hsl
  · rw [hs] at hs'
    cases hs'
  · rw [hs] at hs'
    cases hs'
    rw [e1, arrV_store, inR_cl hi]
    congr 2
    funext j
    by_cases e : j = i.toNat
    · subst e
      simp only [updV, if_pos]
      exact (sv_hIs hi2).symm
    · simp only [updV, if_neg e]
      exact (sv_hIk _ e).symm
  · rcases List.mem_append.mp hz' with hz' | hz'
    · exact hz z hz'
    · rw [List.mem_singleton.mp hz']
      show gB Γ ≤ gB Γ + (a - 1)
      omega
theorem e_iast {i x : Int} {n : Nat} (hd : decode q.2.2.1 pc = .ok (.iastore, 1)) (ha : 0 < a) (hs : h.1.1[a]? = some (.inr (.int, n))) (h0 : 0 ≤ i) (h1 : i < n) (kk : Ev Γ d q (pc + 1) ls st (hI h a i.toNat x) R) : Ev Γ d q pc ls (.inl x :: .inl i :: .inr (some a) :: st) h R :=
  e_ast (ty := .int) (fun _ _ _ _ _ _ _ _ _ _ _ _ _ _ _ _ C h1 h2 h3 h4 w => W.iast C.1 C.2.1 h1 h2 h3 h4 rfl rfl hd w) (by decide) rfl ha hs h0 h1 (fun z => z) kk
theorem e_bast {i x : Int} {n : Nat} (hd : decode q.2.2.1 pc = .ok (.bastore, 1)) (ha : 0 < a) (hs : h.1.1[a]? = some (.inr (.byte, n))) (h0 : 0 ≤ i) (h1 : i < n) (kk : Ev Γ d q (pc + 1) ls st (hI h a i.toNat (bByte x)) R) : Ev Γ d q pc ls (.inl x :: .inl i :: .inr (some a) :: st) h R :=
  e_ast (ty := .byte) (fun _ _ _ _ _ _ _ _ _ _ _ _ _ _ _ _ C h1 h2 h3 h4 w => W.bast C.1 C.2.1 h1 h2 h3 h4 rfl rfl hd (by
    have e : narrow .byte (.int (Int32.ofInt x)) = gV Γ (.inl (bByte x)) := by show Value.int _ = Value.int (Int32.ofInt (Int32.toInt _)); rw [Int32.ofInt_toInt]
    rw [e]
    exact w)) (by decide) rfl ha hs h0 h1 (fun _ => inR_of _) kk
theorem e_zast {i x : Int} {n : Nat} (hd : decode q.2.2.1 pc = .ok (.bastore, 1)) (ha : 0 < a) (hs : h.1.1[a]? = some (.inr (.boolean, n))) (h0 : 0 ≤ i) (h1 : i < n) (hx : x = 0 ∨ x = 1) (kk : Ev Γ d q (pc + 1) ls st (hI h a i.toNat x) R) : Ev Γ d q pc ls (.inl x :: .inl i :: .inr (some a) :: st) h R :=
  e_ast (ty := .boolean) (fun _ _ _ _ _ _ _ _ _ _ _ _ _ _ _ _ C h1 h2 h3 h4 w => W.zast C.1 C.2.1 h1 h2 h3 h4 rfl rfl hd (by
    rw [bool_n hx]
    exact w)) (by decide) rfl ha hs h0 h1 (fun z => z) kk
/-! the end -/
theorem e_ireturn {x : Int} {ty : FieldType} (hd : decode q.2.2.1 pc = .ok (.ireturn, 1)) (hq : q.2.2.2.2.1 = some ty) (hn : narrow ty (.int (Int32.ofInt x)) = .int (Int32.ofInt x)) (hR : R = (some (.inl x), h)) : Ev Γ d q pc ls [.inl x] h R := by
  intro p e Rm s m args below meth c Q n0 s0 C g1 g2 hK H locs cells slots mls hl hol hos hH hz hc hsl
  subst hR
  exact hK pc H locs cells slots mls ⟨hd, ty, hq, hn⟩ hH hz hc hsl (fun v hv => by cases hv; exact okS_h hos)
theorem e_iret {x : Int} (hd : decode q.2.2.1 pc = .ok (.ireturn, 1)) (hq : q.2.2.2.2.1 = some .int) (hR : R = (some (.inl x), h)) : Ev Γ d q pc ls [.inl x] h R := e_ireturn hd hq rfl hR
theorem e_zret {x : Int} (hd : decode q.2.2.1 pc = .ok (.ireturn, 1)) (hq : q.2.2.2.2.1 = some .boolean) (hx : x = 0 ∨ x = 1) (hR : R = (some (.inl x), h)) : Ev Γ d q pc ls [.inl x] h R := e_ireturn hd hq (bool_n hx) hR
theorem e_vret (hd : decode q.2.2.1 pc = .ok (.return_, 1)) (hq : q.2.2.2.2.1 = none) (hR : R = (none, h)) : Ev Γ d q pc ls [] h R := by
  intro p e Rm s m args below meth c Q n0 s0 C g1 g2 hK H locs cells slots mls hl hol hos hH hz hc hsl
  subst hR
  exact hK pc H locs cells slots mls ⟨hd, hq⟩ hH hz hc hsl (fun v hv => by cases hv)
end EVH
end
section
/-! ===== contracts and calls ===== -/
def rmOf (d mc ms : Nat) : Room := { frames := d, cells := mc, slots := ms, locals := 64 * d }
def PcA (Γ : GX) (av : List AV) (h : AH) : Array Value → State → Prop := fun args U => args = (av.map (gV Γ)).toArray ∧ HR Γ h U.heap ∧ KS Γ U ∧ okS av
def QcA (Γ : GX) (R : AR) : Array Value → State → Outcome → State → Prop := fun _ _ oc t => oc = .returned (R.1.map (gV Γ)) ∧ HR Γ R.2 t.heap ∧ ∀ v : AV, R.1 = some v → okv v
def wsM (q : MI) : List Cond := Cond.code q.2.1 q.2.2.1 q.2.2.2.1 q.2.2.2.2.1 :: lw_g
/-- THE CONTRACT OF A METHOD: called with these on this heap it answers this and leaves that heap; d frames below it suffice -/
def CT (Γ : GX) (d : Nat) (q : MI) (av : List AV) (h : AH) (R : AR) : Prop :=
  h.1.2.2.2.1 ≤ R.2.1.2.2.2.1 ∧ h.1.2.2.2.2 ≤ R.2.1.2.2.2.2 ∧
  Met (gl Γ) q.2.1 (wsM q) (rmOf d (R.2.1.2.2.2.1 - h.1.2.2.2.1) (R.2.1.2.2.2.2 - h.1.2.2.2.2)) (PcA Γ av h) (QcA Γ R) (R.2.1.2.2.2.1 - h.1.2.2.2.1) (R.2.1.2.2.2.2 - h.1.2.2.2.2) (fun z => gB Γ ≤ z)
section CTS
variable {Γ : GX} {d : Nat} {q : MI} {pc : Nat} {ls : List (Option AV)} {st st' : List AV} {h : AH} {R : AR}
theorem lv_args_c1 (vs : List Value) (hc : ∀ v ∈ vs, v.category = 1) : ∀ i j : Nat, ∀ v : Value, vs[j]? = some v → (i + j, v) ∈ lv_args i vs := by
  induction vs with
  | nil => intro i j v hj; simp at hj
  | cons a r ih =>
    intro i j v hj
    have ha : ¬ a.category = 2 := by rw [hc a List.mem_cons_self]; decide
    unfold lv_args
    rw [if_neg ha]
    cases j with
    | zero =>
      simp at hj
      subst hj
      exact List.mem_cons_self
    | succ j =>
      have h1 := ih (fun v hv => hc v (List.mem_cons_of_mem _ hv)) (i + 1) j v (by simpa using hj)
      rw [show i + (j + 1) = i + 1 + j by omega]
      exact List.mem_cons_of_mem _ h1
theorem lg_sl_c1 (vs : List Value) (hc : ∀ v ∈ vs, v.category = 1) : (lg_sl vs).length = vs.length := by
  induction vs with
  | nil => rfl
  | cons a r ih =>
    have ha : ¬ a.category = 2 := by rw [hc a List.mem_cons_self]; decide
    have h1 := ih (fun v hv => hc v (List.mem_cons_of_mem _ hv))
    unfold lg_sl at h1 ⊢
    rw [List.flatMap_cons, if_neg ha, List.length_append, h1]
    simp
    omega
/-- the locals at a method's entry -/
def enL (n : Nat) (av : List AV) : List (Option AV) := av.map some ++ List.replicate (n - av.length) none
theorem enL_LR {n : Nat} {av : List AV} (hn : av.length ≤ n) : LR Γ n ((lg_sl (av.map (gV Γ)) ++ List.replicate (n - (lg_sl (av.map (gV Γ))).length) Slot.unset).toArray) (enL n av) := by
  have hc : ∀ v ∈ av.map (gV Γ), v.category = 1 := fun v hv => by
    obtain ⟨w, -, rfl⟩ := List.mem_map.mp hv
    exact gV_cat Γ w
  have hln : (lg_sl (av.map (gV Γ))).length = av.length := by rw [lg_sl_c1 _ hc, List.length_map]
  have hl := lv_entry (av.map (gV Γ)) (n := n) (by rw [hln]; exact hn)
  refine ⟨hl.1, hl.2.1, by simp [enL]; omega, fun i v hi => ?_⟩
  have hiv : av[i]? = some v := by
    unfold enL at hi
    by_cases e : i < av.length
    · rw [List.getElem?_append_left (by simpa using e), List.getElem?_map] at hi
      rw [List.getElem?_eq_getElem e] at hi ⊢
      simpa using hi
    · rw [List.getElem?_append_right (by simp; omega), List.getElem?_replicate] at hi
      split at hi <;> simp at hi
  have h2 := lv_args_c1 (av.map (gV Γ)) hc 0 i (gV Γ v) (by rw [List.getElem?_map, hiv]; rfl)
  rw [Nat.zero_add] at h2
  exact hl.2.2 _ h2
theorem enL_ok {n : Nat} {av : List AV} (hv : okS av) : okl (enL n av) := fun v hm => by
  unfold enL at hm
  rcases List.mem_append.mp hm with hm | hm
  · obtain ⟨w, hw, e⟩ := List.mem_map.mp hm
    cases e
    exact hv _ hw
  · have := List.eq_of_mem_replicate hm
    cases this
set_option maxHeartbeats 1000000 in
theorem CT.of {av : List AV} (hm : MOk q) (hlen : av.length ≤ q.2.2.2.1) (hc : h.1.2.2.2.1 ≤ R.2.1.2.2.2.1) (hs : h.1.2.2.2.2 ≤ R.2.1.2.2.2.2) (k : Ev Γ d q 0 (enL q.2.2.2.1 av) [] h R) : CT Γ d q av h R := by
  refine ⟨hc, hs, Met.ofW (cc := q.2.2.1) (maxL := q.2.2.2.1) (ret := q.2.2.2.2.1) hm.2.2.2.2.2.2.2.2.1 rfl ?_⟩
  intro p e s m args below meth c s₁ B hml hv
  obtain ⟨rfl, hH, hKS, hok⟩ := hv
  have hts := atoms_spec (ws := wsM q) B.pre
  have hown : s.vm.findClass q.2.1.cls = some m.cls := findClass_of_methodNamed B.named
  have hlk := B.notSynchronized
  rw [hm.2.2.2.2.2.1] at hown
  rw [lg_entry_eq]
  refine k p e _ s m _ below meth c _ h.1.2.2.2.1 h.1.2.2.2.2 ⟨B.exec, B.bytes, hml, hown, fun w hw => hts w (List.mem_cons_of_mem _ hw), B.returns, hlk, (name_of_methodNamed B.named B.method).1, hKS, Nat.le_refl _, Nat.le_refl _⟩ ?_ ?_ ?_ s.heap [] 0 0 _ (enL_LR hlen) (enL_ok hok) (fun v hv => by cases hv) hH (fun z hz => by cases hz) rfl rfl
  · show _ ≤ _ + (R.2.1.2.2.2.1 - h.1.2.2.2.1)
    omega
  · show _ ≤ _ + (R.2.1.2.2.2.2 - h.1.2.2.2.2)
    omega
  · intro pc' H' locs' cells' slots' mls' hret hH' hz hcc hss hokr
    obtain ⟨rv, Rh⟩ := R
    dsimp only at hret hH' hcc hss hokr ⊢
    have ec : Rh.1.2.2.2.1 - h.1.2.2.2.1 = cells' := by omega
    have es : Rh.1.2.2.2.2 - h.1.2.2.2.2 = slots' := by omega
    rw [ec, es]
    have hr := B.returns
    rcases rv with _ | x | r
    · refine W.vret B.exec B.bytes (by rw [hr]; exact hret.2) (fun t ht hW => ⟨rfl, by rw [ht]; exact hH', hokr⟩) hz hret.1
    · obtain ⟨hd, ty, hq, hn⟩ := hret
      exact W.zret B.exec B.bytes (by rw [hr]; exact hq) hn (fun t ht hW => ⟨rfl, by rw [ht]; exact hH', hokr⟩) hz hd
    · exact hret.elim
theorem ws_good {q' : MI} (hm : MOk q') : GoodIn lw_g (wsM q') := fun w hw => by
  rcases List.mem_cons.mp hw with rfl | hw
  · exact good_gg _ hm.1
  · exact good_gg w hw
theorem sum_cat (l : List AV) : ((l.map (gV Γ)).map fun v => v.category).sum = l.length := by
  induction l with
  | nil => rfl
  | cons a r ih =>
    simp only [List.map_cons, List.sum_cons, List.length_cons, ih, gV_cat]
    omega
theorem run_go {p : Program} {e : Env} {Rm : Room} {s : State} {m : MethodId} {args : Array Value} {below : List Frame} {meth : Method} {c : Code} {Q : State → Prop} {H : Heap} {locs : List Loc} {cells slots mc ms : Nat} {mls : Array Slot} {g : List Value} {as : Array Value} {r : Option AV} {h2 : AH}
    (run : va_Run p (gl Γ) e Rm s m args below meth c H locs cells slots mc ms (F0 m pc mls g) (st.map (gV Γ)) (QcA Γ (r, h2) as) (fun z => gB Γ ≤ z))
    (k : ∀ (H1 : Heap) (L : List Loc), HR Γ h2 H1 → (∀ z ∈ L, gB Γ ≤ z.base) → (∀ v : AV, r = some v → okv v) → W p (gl Γ) e Rm s m args below meth c H1 (locs ++ L) (cells + mc) (slots + ms) Q (F0 m (pc + 3) mls ((r.toList ++ st).map (gV Γ)))) :
    W p (gl Γ) e Rm s m args below meth c H locs cells slots Q (F0 m pc mls g) := by
  intro T hT X
  obtain ⟨v, st₀, t, T', L, h0, X', hL, e1, e2, ⟨hv, hH2, hok⟩, go⟩ := run T hT X
  cases hv
  obtain ⟨t2, a1, b1⟩ := k T'.heap L (by rw [e1]; exact hH2) hL hok T' rfl X'
  refine ⟨t2, go t2 ?_, b1⟩
  have e3 : (r.map (gV Γ)).toList ++ st.map (gV Γ) = (r.toList ++ st).map (gV Γ) := by cases r <;> simp
  show Steps p.tables e below (T'.setTop (F0 m (pc + 3) mls ((r.map (gV Γ)).toList ++ st.map (gV Γ)))) t2
  rw [e3]
  exact a1
theorem okS_res {r : Option AV} (hr : ∀ v : AV, r = some v → okv v) (hs : okS st) : okS (r.toList ++ st) := fun w hw => by
  rcases List.mem_append.mp hw with hw | hw
  · exact hr w (by cases r <;> simp_all)
  · exact hs w hw
theorem okS_rev {av : List AV} {stk : List AV} (hs : okS stk) (he : av.reverse ++ st = stk) : okS av ∧ okS st := by
  subst he
  exact ⟨fun w hw => hs w (List.mem_append_left _ (List.mem_reverse.mpr hw)), fun w hw => hs w (List.mem_append_right _ hw)⟩
theorem PcA_blind {av : List AV} : FrameBlind (PcA Γ av h) := fun a U g mk z => ⟨z.1, z.2.1, z.2.2.1.blind g mk a, z.2.2.2⟩
set_option maxHeartbeats 1000000 in
/-- a call of an object's method -/
theorem e_callv {q' : MI} {a d' idx : Nat} {av stk : List AV} {r : Option AV} {h2 : AH} (hd : decode q.2.2.1 pc = .ok (.invokevirtual idx, 3)) (hco : COk q.1 idx q') (hm : MOk q') (hk : q'.2.2.2.2.2.2 = 0) (ha : 0 < a) (hsh : h.1.1[a]? = some (.inl q'.1)) (hn : av.length = q'.2.2.2.2.2.1) (hst : st.length ≤ 8) (hdd : d' < d)
    (hct : CT Γ d' q' (.inr (some a) :: av) h (r, h2)) (hnc : h2.1.2.2.2.1 ≤ R.2.1.2.2.2.1) (hns : h2.1.2.2.2.2 ≤ R.2.1.2.2.2.2) (hstk : av.reverse ++ .inr (some a) :: st = stk) (hres : r.toList ++ st = st') (k : Ev Γ d q (pc + 3) ls st' h2 R) : Ev Γ d q pc ls stk h R := by
  intro p e Rm s m args below meth c Q n0 s0 C g1 g2 hK H locs cells slots mls hl hol hos hH hz hc hsl
  subst hres
  obtain ⟨hokav, hokst⟩ := okS_rev hos hstk
  obtain ⟨hci, cell, q1, q2, q3, q4⟩ := hH.2.2.2.1 a _ ha hsh
  have C' := C
  obtain ⟨hx, hb, hml, hown, hts, hr, hlk, hnm, hKS, hd1, hd2⟩ := C
  obtain ⟨hS2, hfc, kC, hkC, hkind⟩ := hKS.1.1 _ _ (cl_at hci)
  obtain ⟨m1, m2, m3, m4, m5, m6, m7, m8, m9, m10, m11, m12⟩ := hm
  have hm : MOk q' := ⟨m1, m2, m3, m4, m5, m6, m7, m8, m9, m10, m11, m12⟩
  obtain ⟨c1, c2, hM⟩ := hct
  dsimp only at c1 c2 hM
  have hmap : stk.map (gV Γ) = (av.map (gV Γ)).reverse ++ Value.ref (gB Γ + (a - 1)) :: st.map (gV Γ) := by
    rw [← hstk, List.map_append, List.map_reverse, List.map_cons, gV_ref ha]
  have hpre : PreV s H (cN q'.1) (gB Γ + (a - 1)) (PcA Γ (.inr (some a) :: av) h) (av.map (gV Γ)) :=
    ⟨PcA_blind, ⟨cell, q1, by rw [q3]; rfl, by rw [q2]; exact hfc⟩, fun U hU hW => ⟨by rw [List.map_cons, gV_ref ha], by rw [hU]; exact hH, hKS.warm hW, okS_c trivial hokav⟩⟩
  have hroom : (rmOf d' (h2.1.2.2.2.1 - h.1.2.2.2.1) (h2.1.2.2.2.2 - h.1.2.2.2.2)).frames + 1 ≤ Rm.frames ∧ 8 + (q'.2.2.2.1 + 11) + (rmOf d' (h2.1.2.2.2.1 - h.1.2.2.2.1) (h2.1.2.2.2.2 - h.1.2.2.2.2)).locals ≤ Rm.locals := by
    show d' + 1 ≤ Rm.frames ∧ 8 + (q'.2.2.2.1 + 11) + 64 * d' ≤ Rm.locals
    omega
  have hf : cells + (h2.1.2.2.2.1 - h.1.2.2.2.1) ≤ Rm.cells ∧ slots + (h2.1.2.2.2.2 - h.1.2.2.2.2) ≤ Rm.slots := by omega
  have hlen : ∀ sig, parseMethodDescriptor q'.2.1.desc = some sig → q'.2.2.2.2.2.1 = sig.parameters.length := fun sig hsig => by
    rw [hsig] at m8
    exact (Option.some.inj m8).symm
  have hW8 : 2 * (F0 m pc mls (stk.map (gV Γ))).monitorRoom + ((st.map (gV Γ)).map fun v => v.category).sum ≤ 8 := lv_room (by rw [sum_cat]; exact hst)
  have hsel : (Cond.selects (cN q'.1) q'.2.1 q'.2.1).before args s = true := by
    have := hts _ (m4 hk)
    rwa [m6] at this
  refine run_go (as := (Value.ref (gB Γ + (a - 1)) :: av.map (gV Γ)).toArray) (mc := h2.1.2.2.2.1 - h.1.2.2.2.1) (ms := h2.1.2.2.2.2 - h.1.2.2.2.2) (h2 := h2) (r := r) ?_ (fun H1 L hH1 hL hokr => k p e Rm s m args below meth c Q n0 s0 C' g1 g2 hK H1 _ _ _ mls hl hol (okS_res hokr (okS_t hokst)) hH1 (fun z hz' => (List.mem_append.mp hz').elim (hz z) (hL z)) (by omega) (by omega))
  rcases hco with hl1 | ⟨host, hl1⟩
  · exact va_runV (g := F0 m pc mls (stk.map (gV Γ))) (As := av.map (gV Γ)) (rest := st.map (gV Γ)) (Ts := lw_g) ⟨hx, hb, hml, hown, hts⟩ hM ⟨⟨rfl, rfl, hroom.1, hroom.2, pay_in hts (ws_good hm), List.mem_cons_self, hts _ m1, hts _ m5, m7, hlen, hts _ hl1⟩, hts _ (m3 (by rw [hk]; decide)), hsel⟩ hpre rfl (by rw [List.length_map]; exact hn) hl.1 hmap hW8 hd hf
  · exact va_runVN (g := F0 m pc mls (stk.map (gV Γ))) (As := av.map (gV Γ)) (rest := st.map (gV Γ)) (Ts := lw_g) ⟨hx, hb, hml, hown, hts⟩ hM ⟨⟨⟨rfl, rfl, hroom.1, hroom.2, pay_in hts (ws_good hm), List.mem_cons_self⟩, hts _ m1, hts _ m5, m7, hlen, va_Nw.use rfl (hKS.2.2.2.1 _ hl1)⟩, hts _ (m3 (by rw [hk]; decide)), hsel⟩ hpre rfl (by rw [List.length_map]; exact hn) hl.1 hmap hW8 hd hf
set_option maxHeartbeats 1000000 in
/-- a static call -/
theorem e_calls {q' : MI} {d' idx : Nat} {av stk : List AV} {r : Option AV} {h2 : AH} (hd : decode q.2.2.1 pc = .ok (.invokestatic idx, 3)) (hco : COk q.1 idx q') (hm : MOk q') (hk : q'.2.2.2.2.2.2 = 1) (hn : av.length = q'.2.2.2.2.2.1) (hst : st.length ≤ 8) (hdd : d' < d)
    (hct : CT Γ d' q' av h (r, h2)) (hnc : h2.1.2.2.2.1 ≤ R.2.1.2.2.2.1) (hns : h2.1.2.2.2.2 ≤ R.2.1.2.2.2.2) (hstk : av.reverse ++ st = stk) (hres : r.toList ++ st = st') (k : Ev Γ d q (pc + 3) ls st' h2 R) : Ev Γ d q pc ls stk h R := by
  intro p e Rm s m args below meth c Q n0 s0 C g1 g2 hK H locs cells slots mls hl hol hos hH hz hc hsl
  subst hres
  obtain ⟨hokav, hokst⟩ := okS_rev hos hstk
  have C' := C
  obtain ⟨hx, hb, hml, hown, hts, hr, hlk, hnm, hKS, hd1, hd2⟩ := C
  obtain ⟨m1, m2, m3, m4, m5, m6, m7, m8, m9, m10, m11, m12⟩ := hm
  have hm : MOk q' := ⟨m1, m2, m3, m4, m5, m6, m7, m8, m9, m10, m11, m12⟩
  obtain ⟨c1, c2, hM⟩ := hct
  dsimp only at c1 c2 hM
  have hmap : stk.map (gV Γ) = (av.map (gV Γ)).reverse ++ st.map (gV Γ) := by
    rw [← hstk, List.map_append, List.map_reverse]
  have hpre : PreS s H (PcA Γ av h) (av.map (gV Γ)) := ⟨PcA_blind, fun U hU hW => ⟨rfl, by rw [hU]; exact hH, hKS.warm hW, hokav⟩⟩
  have hroom : (rmOf d' (h2.1.2.2.2.1 - h.1.2.2.2.1) (h2.1.2.2.2.2 - h.1.2.2.2.2)).frames + 1 ≤ Rm.frames ∧ 8 + (q'.2.2.2.1 + 11) + (rmOf d' (h2.1.2.2.2.1 - h.1.2.2.2.1) (h2.1.2.2.2.2 - h.1.2.2.2.2)).locals ≤ Rm.locals := by
    show d' + 1 ≤ Rm.frames ∧ 8 + (q'.2.2.2.1 + 11) + 64 * d' ≤ Rm.locals
    omega
  have hf : cells + (h2.1.2.2.2.1 - h.1.2.2.2.1) ≤ Rm.cells ∧ slots + (h2.1.2.2.2.2 - h.1.2.2.2.2) ≤ Rm.slots := by omega
  have hlen : ∀ sig, parseMethodDescriptor q'.2.1.desc = some sig → q'.2.2.2.2.2.1 = sig.parameters.length := fun sig hsig => by
    rw [hsig] at m8
    exact (Option.some.inj m8).symm
  have hW8 : 2 * (F0 m pc mls (stk.map (gV Γ))).monitorRoom + ((st.map (gV Γ)).map fun v => v.category).sum ≤ 8 := lv_room (by rw [sum_cat]; exact hst)
  refine run_go (as := (av.map (gV Γ)).toArray) (mc := h2.1.2.2.2.1 - h.1.2.2.2.1) (ms := h2.1.2.2.2.2 - h.1.2.2.2.2) (h2 := h2) (r := r) ?_ (fun H1 L hH1 hL hokr => k p e Rm s m args below meth c Q n0 s0 C' g1 g2 hK H1 _ _ _ mls hl hol (okS_res hokr hokst) hH1 (fun z hz' => (List.mem_append.mp hz').elim (hz z) (hL z)) (by omega) (by omega))
  rcases hco with hl1 | ⟨host, hl1⟩
  · exact va_runS (g := F0 m pc mls (stk.map (gV Γ))) (As := av.map (gV Γ)) (rest := st.map (gV Γ)) (Ts := lw_g) ⟨hx, hb, hml, hown, hts⟩ hM ⟨⟨rfl, rfl, hroom.1, hroom.2, pay_in hts (ws_good hm), List.mem_cons_self, hts _ m1, hts _ m5, m7, hlen, hts _ hl1⟩, hts _ (m2 hk)⟩ hpre rfl (by rw [List.length_map]; exact hn) hl.1 hmap hW8 hd hf
  · exact va_runSN (g := F0 m pc mls (stk.map (gV Γ))) (As := av.map (gV Γ)) (rest := st.map (gV Γ)) (Ts := lw_g) ⟨hx, hb, hml, hown, hts⟩ hM ⟨⟨⟨rfl, rfl, hroom.1, hroom.2, pay_in hts (ws_good hm), List.mem_cons_self⟩, hts _ m1, hts _ m5, m7, hlen, va_Nw.use rfl (hKS.2.2.2.1 _ hl1)⟩, hts _ (m2 hk), trivial⟩ hpre rfl (by rw [List.length_map]; exact hn) hl.1 hmap hW8 hd hf
set_option maxHeartbeats 1000000 in
/-- a constructor's call -/
theorem e_callc {q' : MI} {a d' idx : Nat} {av stk : List AV} {h2 : AH} (hd : decode q.2.2.1 pc = .ok (.invokespecial idx, 3)) (hco : COk q.1 idx q') (hm : MOk q') (hk : q'.2.2.2.2.2.2 = 2) (ha : 0 < a) (hn : av.length = q'.2.2.2.2.2.1) (hst : st.length ≤ 8) (hdd : d' < d)
    (hct : CT Γ d' q' (.inr (some a) :: av) h (none, h2)) (hnc : h2.1.2.2.2.1 ≤ R.2.1.2.2.2.1) (hns : h2.1.2.2.2.2 ≤ R.2.1.2.2.2.2) (hstk : av.reverse ++ .inr (some a) :: st = stk) (k : Ev Γ d q (pc + 3) ls st h2 R) : Ev Γ d q pc ls stk h R := by
  intro p e Rm s m args below meth c Q n0 s0 C g1 g2 hK H locs cells slots mls hl hol hos hH hz hc hsl
  obtain ⟨hokav, hokst⟩ := okS_rev hos hstk
  have C' := C
  obtain ⟨hx, hb, hml, hown, hts, hr, hlk, hnm, hKS, hd1, hd2⟩ := C
  obtain ⟨m1, m2, m3, m4, m5, m6, m7, m8, m9, m10, m11, m12⟩ := hm
  have hm : MOk q' := ⟨m1, m2, m3, m4, m5, m6, m7, m8, m9, m10, m11, m12⟩
  obtain ⟨c1, c2, hM⟩ := hct
  dsimp only at c1 c2 hM
  have hmap : stk.map (gV Γ) = (av.map (gV Γ)).reverse ++ Value.ref (gB Γ + (a - 1)) :: st.map (gV Γ) := by
    rw [← hstk, List.map_append, List.map_reverse, List.map_cons, gV_ref ha]
  have hpre : PreS s H (PcA Γ (.inr (some a) :: av) h) (Value.ref (gB Γ + (a - 1)) :: av.map (gV Γ)) :=
    ⟨PcA_blind, fun U hU hW => ⟨by rw [List.map_cons, gV_ref ha], by rw [hU]; exact hH, hKS.warm hW, okS_c trivial hokav⟩⟩
  have hroom : (rmOf d' (h2.1.2.2.2.1 - h.1.2.2.2.1) (h2.1.2.2.2.2 - h.1.2.2.2.2)).frames + 1 ≤ Rm.frames ∧ 8 + (q'.2.2.2.1 + 11) + (rmOf d' (h2.1.2.2.2.1 - h.1.2.2.2.1) (h2.1.2.2.2.2 - h.1.2.2.2.2)).locals ≤ Rm.locals := by
    show d' + 1 ≤ Rm.frames ∧ 8 + (q'.2.2.2.1 + 11) + 64 * d' ≤ Rm.locals
    omega
  have hf : cells + (h2.1.2.2.2.1 - h.1.2.2.2.1) ≤ Rm.cells ∧ slots + (h2.1.2.2.2.2 - h.1.2.2.2.2) ≤ Rm.slots := by omega
  have hlen : ∀ sig, parseMethodDescriptor q'.2.1.desc = some sig → q'.2.2.2.2.2.1 = sig.parameters.length := fun sig hsig => by
    rw [hsig] at m8
    exact (Option.some.inj m8).symm
  have hW8 : 2 * (F0 m pc mls (stk.map (gV Γ))).monitorRoom + ((st.map (gV Γ)).map fun v => v.category).sum ≤ 8 := lv_room (by rw [sum_cat]; exact hst)
  have hret : q'.2.2.2.2.1 = none := (m12 hk).2
  have hwm : Cond.code q'.2.1 q'.2.2.1 q'.2.2.2.1 none ∈ wsM q' := by
    unfold wsM
    rw [hret]
    exact List.mem_cons_self
  have hcd : (Cond.code q'.2.1 q'.2.2.1 q'.2.2.2.1 none).before args s = true := by
    have := hts _ m1
    rwa [hret] at this
  refine run_go (as := (Value.ref (gB Γ + (a - 1)) :: av.map (gV Γ)).toArray) (mc := h2.1.2.2.2.1 - h.1.2.2.2.1) (ms := h2.1.2.2.2.2 - h.1.2.2.2.2) (h2 := h2) (r := none) ?_ (fun H1 L hH1 hL hokr => k p e Rm s m args below meth c Q n0 s0 C' g1 g2 hK H1 _ _ _ mls hl hol (okS_t hokst) hH1 (fun z hz' => (List.mem_append.mp hz').elim (hz z) (hL z)) (by omega) (by omega))
  rcases hco with hl1 | ⟨host, hl1⟩
  · exact va_runI (g := F0 m pc mls (stk.map (gV Γ))) (As := av.map (gV Γ)) (rest := st.map (gV Γ)) (Ts := lw_g) ⟨hx, hb, hml, hown, hts⟩ hM ⟨⟨rfl, rfl, hroom.1, hroom.2, pay_in hts (ws_good hm), hwm, hcd, hts _ m5, m7, hlen, hts _ hl1⟩, (m12 hk).1, hts _ (m3 (by rw [hk]; decide))⟩ hpre rfl (by rw [List.length_map]; exact hn) hl.1 hmap hW8 hd hf
  · exact va_runIN (g := F0 m pc mls (stk.map (gV Γ))) (As := av.map (gV Γ)) (rest := st.map (gV Γ)) (Ts := lw_g) ⟨hx, hb, hml, hown, hts⟩ hM ⟨⟨⟨rfl, rfl, hroom.1, hroom.2, pay_in hts (ws_good hm), hwm⟩, hcd, hts _ m5, m7, hlen, va_Nw.use rfl (hKS.2.2.2.1 _ hl1)⟩, (m12 hk).1, hts _ (m3 (by rw [hk]; decide))⟩ hpre rfl (by rw [List.length_map]; exact hn) hl.1 hmap hW8 hd hf
end CTS
end
section
/-! ===== the cells of the class and of the reference, once both are made ===== -/
def S0 : List SH := [.inr (.int, 0), .inl 6, .inr (.int, 260), .inl 5, .inr (.int, 240), .inr (.int, 120), .inr (.int, 120), .inr (.int, 120), .inr (.int, 120), .inr (.int, 120), .inr (.int, 120), .inr (.int, 120), .inr (.int, 120), .inr (.int, 26), .inr (.int, 120), .inl 5, .inr (.int, 240), .inr (.int, 120), .inr (.int, 120), .inr (.int, 120), .inr (.int, 120), .inr (.int, 120), .inr (.int, 120), .inr (.int, 120), .inr (.int, 120), .inr (.int, 26), .inr (.int, 120), .inl 5, .inr (.int, 240), .inr (.int, 120), .inr (.int, 120), .inr (.int, 120), .inr (.int, 120), .inr (.int, 120), .inr (.int, 120), .inr (.int, 120), .inr (.int, 120), .inr (.int, 26), .inr (.int, 120), .inl 5, .inr (.int, 240), .inr (.int, 120), .inr (.int, 120), .inr (.int, 120), .inr (.int, 120), .inr (.int, 120), .inr (.int, 120), .inr (.int, 120), .inr (.int, 120), .inr (.int, 26), .inr (.int, 120), .inl 4, .inl 1, .inr (.int, 120), .inr (.int, 120), .inr (.int, 120), .inr (.int, 120), .inr (.int, 120), .inr (.int, 26), .inr (.int, 120), .inr (.boolean, 120), .inl 0, .inr (.int, 120), .inr (.int, 120), .inl 3, .inr (.boolean, 80), .inl 2, .inr (.array .int, 11), .inr (.int, 240), .inr (.int, 240), .inr (.int, 240), .inr (.int, 240), .inr (.int, 240), .inr (.int, 240), .inr (.int, 240), .inr (.int, 240), .inr (.int, 240), .inr (.int, 240), .inr (.int, 240), .inr (.int, 11), .inl 8, .inr (.byte, 240), .inl 7, .inr (.byte, 240), .inr (.int, 240), .inr (.int, 240), .inr (.int, 240), .inr (.int, 240), .inr (.int, 240), .inr (.int, 240), .inr (.int, 240), .inr (.boolean, 240), .inl 7, .inr (.byte, 240), .inr (.int, 240), .inr (.int, 240), .inr (.int, 240), .inr (.int, 240), .inr (.int, 240), .inr (.int, 240), .inr (.int, 240), .inr (.boolean, 240), .inl 7, .inr (.byte, 240), .inr (.int, 240), .inr (.int, 240), .inr (.int, 240), .inr (.int, 240), .inr (.int, 240), .inr (.int, 240), .inr (.int, 240), .inr (.boolean, 240), .inl 7, .inr (.byte, 240), .inr (.int, 240), .inr (.int, 240), .inr (.int, 240), .inr (.int, 240), .inr (.int, 240), .inr (.int, 240), .inr (.int, 240), .inr (.boolean, 240), .inl 7, .inr (.byte, 240), .inr (.int, 240), .inr (.int, 240), .inr (.int, 240), .inr (.int, 240), .inr (.int, 240), .inr (.int, 240), .inr (.int, 240), .inr (.boolean, 240), .inr (.byte, 2400), .inr (.int, 10), .inr (.boolean, 676), .inr (.int, 26), .inr (.int, 4000), .inr (.int, 4000), .inr (.int, 4000), .inr (.int, 4000), .inr (.int, 4000), .inr (.int, 26), .inr (.int, 26), .inr (.int, 26), .inr (.int, 26), .inr (.int, 26), .inr (.boolean, 240), .inr (.boolean, 240), .inr (.int, 240), .inr (.byte, 40000), .inr (.boolean, 240), .inr (.boolean, 240), .inr (.long, 1)]
def PL : List (Nat × Nat × Nat) := [(1, 0, 2), (1, 2, 3), (1, 3, 15), (1, 4, 27), (1, 5, 39), (1, 6, 51), (1, 7, 52), (1, 8, 61), (1, 9, 64), (1, 10, 66), (3, 0, 4), (3, 3, 5), (3, 4, 6), (3, 5, 7), (3, 6, 8), (3, 7, 9), (3, 8, 10), (3, 9, 11), (3, 10, 12), (3, 11, 13), (3, 12, 14), (15, 0, 16), (15, 3, 17), (15, 4, 18), (15, 5, 19), (15, 6, 20), (15, 7, 21), (15, 8, 22), (15, 9, 23), (15, 10, 24), (15, 11, 25), (15, 12, 26), (27, 0, 28), (27, 3, 29), (27, 4, 30), (27, 5, 31), (27, 6, 32), (27, 7, 33), (27, 8, 34), (27, 9, 35), (27, 10, 36), (27, 11, 37), (27, 12, 38), (39, 0, 40), (39, 3, 41), (39, 4, 42), (39, 5, 43), (39, 6, 44), (39, 7, 45), (39, 8, 46), (39, 9, 47), (39, 10, 48), (39, 11, 49), (39, 12, 50), (52, 0, 3), (52, 1, 15), (52, 2, 53), (52, 3, 54), (52, 4, 55), (52, 5, 56), (52, 6, 57), (52, 11, 58), (52, 12, 59), (52, 14, 60), (61, 0, 3), (61, 1, 52), (61, 2, 62), (61, 4, 63), (64, 0, 3), (64, 1, 27), (64, 2, 52), (64, 3, 65), (66, 0, 67), (66, 1, 79), (67, 0, 68), (67, 1, 69), (67, 2, 70), (67, 3, 71), (67, 4, 72), (67, 5, 73), (67, 6, 74), (67, 7, 75), (67, 8, 76), (67, 9, 77), (67, 10, 78), (80, 1, 81), (80, 3, 82), (80, 4, 92), (80, 5, 102), (80, 6, 112), (80, 7, 122), (80, 8, 132), (80, 9, 133), (80, 11, 134), (80, 20, 135), (80, 21, 136), (80, 22, 137), (80, 23, 138), (80, 24, 139), (80, 25, 140), (80, 27, 141), (80, 28, 142), (80, 29, 143), (80, 30, 144), (80, 31, 145), (80, 32, 146), (80, 33, 147), (80, 34, 148), (80, 35, 149), (80, 37, 150), (80, 38, 151), (82, 0, 83), (82, 3, 84), (82, 4, 85), (82, 5, 86), (82, 6, 87), (82, 7, 88), (82, 8, 89), (82, 9, 90), (82, 10, 91), (92, 0, 93), (92, 3, 94), (92, 4, 95), (92, 5, 96), (92, 6, 97), (92, 7, 98), (92, 8, 99), (92, 9, 100), (92, 10, 101), (102, 0, 103), (102, 3, 104), (102, 4, 105), (102, 5, 106), (102, 6, 107), (102, 7, 108), (102, 8, 109), (102, 9, 110), (102, 10, 111), (112, 0, 113), (112, 3, 114), (112, 4, 115), (112, 5, 116), (112, 6, 117), (112, 7, 118), (112, 8, 119), (112, 9, 120), (112, 10, 121), (122, 0, 123), (122, 3, 124), (122, 4, 125), (122, 5, 126), (122, 6, 127), (122, 7, 128), (122, 8, 129), (122, 9, 130), (122, 10, 131)]
/-- the graph of cells stands: shapes and fixed references -/
def GOk (g : AG) : Prop := g.1 = S0 ∧ ∀ x ∈ PL, g.2.1 x.1 x.2.1 = some x.2.2
/-- the reference's tree at hand is this one -/
abbrev sT (g : AG) (t : Nat) : AG := (g.1, mset g.2.1 80 12 (some t), g.2.2)
theorem gS {g : AG} {t : Nat} (hg : GOk g) : GOk (sT g t) := by
  refine ⟨hg.1, fun x hx => ?_⟩
  have h1 : ¬ (x.1 = 80 ∧ x.2.1 = 12) := by
    have h2 : ∀ x ∈ PL, ¬ (x.1 = 80 ∧ x.2.1 = 12) := by decide
    exact h2 x hx
  show mset g.2.1 80 12 (some t) x.1 x.2.1 = _
  unfold mset
  rw [if_neg h1]
  exact hg.2 x hx
theorem gC (g : AG) (t : Nat) : (sT g t).2.1 80 12 = some t := by simp [sT, mset]
theorem gs_1 {g : AG} (hg : GOk g) : g.1[1]? = some (.inl 6) := by rw [hg.1]; rfl
theorem gs_2 {g : AG} (hg : GOk g) : g.1[2]? = some (.inr (.int, 260)) := by rw [hg.1]; rfl
theorem gs_3 {g : AG} (hg : GOk g) : g.1[3]? = some (.inl 5) := by rw [hg.1]; rfl
theorem gs_4 {g : AG} (hg : GOk g) : g.1[4]? = some (.inr (.int, 240)) := by rw [hg.1]; rfl
theorem gs_5 {g : AG} (hg : GOk g) : g.1[5]? = some (.inr (.int, 120)) := by rw [hg.1]; rfl
theorem gs_6 {g : AG} (hg : GOk g) : g.1[6]? = some (.inr (.int, 120)) := by rw [hg.1]; rfl
theorem gs_7 {g : AG} (hg : GOk g) : g.1[7]? = some (.inr (.int, 120)) := by rw [hg.1]; rfl
theorem gs_8 {g : AG} (hg : GOk g) : g.1[8]? = some (.inr (.int, 120)) := by rw [hg.1]; rfl
theorem gs_9 {g : AG} (hg : GOk g) : g.1[9]? = some (.inr (.int, 120)) := by rw [hg.1]; rfl
theorem gs_10 {g : AG} (hg : GOk g) : g.1[10]? = some (.inr (.int, 120)) := by rw [hg.1]; rfl
theorem gs_11 {g : AG} (hg : GOk g) : g.1[11]? = some (.inr (.int, 120)) := by rw [hg.1]; rfl
theorem gs_12 {g : AG} (hg : GOk g) : g.1[12]? = some (.inr (.int, 120)) := by rw [hg.1]; rfl
theorem gs_13 {g : AG} (hg : GOk g) : g.1[13]? = some (.inr (.int, 26)) := by rw [hg.1]; rfl
theorem gs_14 {g : AG} (hg : GOk g) : g.1[14]? = some (.inr (.int, 120)) := by rw [hg.1]; rfl
theorem gs_15 {g : AG} (hg : GOk g) : g.1[15]? = some (.inl 5) := by rw [hg.1]; rfl
theorem gs_16 {g : AG} (hg : GOk g) : g.1[16]? = some (.inr (.int, 240)) := by rw [hg.1]; rfl
theorem gs_17 {g : AG} (hg : GOk g) : g.1[17]? = some (.inr (.int, 120)) := by rw [hg.1]; rfl
theorem gs_18 {g : AG} (hg : GOk g) : g.1[18]? = some (.inr (.int, 120)) := by rw [hg.1]; rfl
theorem gs_19 {g : AG} (hg : GOk g) : g.1[19]? = some (.inr (.int, 120)) := by rw [hg.1]; rfl
theorem gs_20 {g : AG} (hg : GOk g) : g.1[20]? = some (.inr (.int, 120)) := by rw [hg.1]; rfl
theorem gs_21 {g : AG} (hg : GOk g) : g.1[21]? = some (.inr (.int, 120)) := by rw [hg.1]; rfl
theorem gs_22 {g : AG} (hg : GOk g) : g.1[22]? = some (.inr (.int, 120)) := by rw [hg.1]; rfl
theorem gs_23 {g : AG} (hg : GOk g) : g.1[23]? = some (.inr (.int, 120)) := by rw [hg.1]; rfl
theorem gs_24 {g : AG} (hg : GOk g) : g.1[24]? = some (.inr (.int, 120)) := by rw [hg.1]; rfl
theorem gs_25 {g : AG} (hg : GOk g) : g.1[25]? = some (.inr (.int, 26)) := by rw [hg.1]; rfl
theorem gs_26 {g : AG} (hg : GOk g) : g.1[26]? = some (.inr (.int, 120)) := by rw [hg.1]; rfl
theorem gs_27 {g : AG} (hg : GOk g) : g.1[27]? = some (.inl 5) := by rw [hg.1]; rfl
theorem gs_28 {g : AG} (hg : GOk g) : g.1[28]? = some (.inr (.int, 240)) := by rw [hg.1]; rfl
theorem gs_29 {g : AG} (hg : GOk g) : g.1[29]? = some (.inr (.int, 120)) := by rw [hg.1]; rfl
theorem gs_30 {g : AG} (hg : GOk g) : g.1[30]? = some (.inr (.int, 120)) := by rw [hg.1]; rfl
theorem gs_31 {g : AG} (hg : GOk g) : g.1[31]? = some (.inr (.int, 120)) := by rw [hg.1]; rfl
theorem gs_32 {g : AG} (hg : GOk g) : g.1[32]? = some (.inr (.int, 120)) := by rw [hg.1]; rfl
theorem gs_33 {g : AG} (hg : GOk g) : g.1[33]? = some (.inr (.int, 120)) := by rw [hg.1]; rfl
theorem gs_34 {g : AG} (hg : GOk g) : g.1[34]? = some (.inr (.int, 120)) := by rw [hg.1]; rfl
theorem gs_35 {g : AG} (hg : GOk g) : g.1[35]? = some (.inr (.int, 120)) := by rw [hg.1]; rfl
theorem gs_36 {g : AG} (hg : GOk g) : g.1[36]? = some (.inr (.int, 120)) := by rw [hg.1]; rfl
theorem gs_37 {g : AG} (hg : GOk g) : g.1[37]? = some (.inr (.int, 26)) := by rw [hg.1]; rfl
theorem gs_38 {g : AG} (hg : GOk g) : g.1[38]? = some (.inr (.int, 120)) := by rw [hg.1]; rfl
theorem gs_39 {g : AG} (hg : GOk g) : g.1[39]? = some (.inl 5) := by rw [hg.1]; rfl
theorem gs_40 {g : AG} (hg : GOk g) : g.1[40]? = some (.inr (.int, 240)) := by rw [hg.1]; rfl
theorem gs_41 {g : AG} (hg : GOk g) : g.1[41]? = some (.inr (.int, 120)) := by rw [hg.1]; rfl
theorem gs_42 {g : AG} (hg : GOk g) : g.1[42]? = some (.inr (.int, 120)) := by rw [hg.1]; rfl
theorem gs_43 {g : AG} (hg : GOk g) : g.1[43]? = some (.inr (.int, 120)) := by rw [hg.1]; rfl
theorem gs_44 {g : AG} (hg : GOk g) : g.1[44]? = some (.inr (.int, 120)) := by rw [hg.1]; rfl
theorem gs_45 {g : AG} (hg : GOk g) : g.1[45]? = some (.inr (.int, 120)) := by rw [hg.1]; rfl
theorem gs_46 {g : AG} (hg : GOk g) : g.1[46]? = some (.inr (.int, 120)) := by rw [hg.1]; rfl
theorem gs_47 {g : AG} (hg : GOk g) : g.1[47]? = some (.inr (.int, 120)) := by rw [hg.1]; rfl
theorem gs_48 {g : AG} (hg : GOk g) : g.1[48]? = some (.inr (.int, 120)) := by rw [hg.1]; rfl
theorem gs_49 {g : AG} (hg : GOk g) : g.1[49]? = some (.inr (.int, 26)) := by rw [hg.1]; rfl
theorem gs_50 {g : AG} (hg : GOk g) : g.1[50]? = some (.inr (.int, 120)) := by rw [hg.1]; rfl
theorem gs_51 {g : AG} (hg : GOk g) : g.1[51]? = some (.inl 4) := by rw [hg.1]; rfl
theorem gs_52 {g : AG} (hg : GOk g) : g.1[52]? = some (.inl 1) := by rw [hg.1]; rfl
theorem gs_53 {g : AG} (hg : GOk g) : g.1[53]? = some (.inr (.int, 120)) := by rw [hg.1]; rfl
theorem gs_54 {g : AG} (hg : GOk g) : g.1[54]? = some (.inr (.int, 120)) := by rw [hg.1]; rfl
theorem gs_55 {g : AG} (hg : GOk g) : g.1[55]? = some (.inr (.int, 120)) := by rw [hg.1]; rfl
theorem gs_56 {g : AG} (hg : GOk g) : g.1[56]? = some (.inr (.int, 120)) := by rw [hg.1]; rfl
theorem gs_57 {g : AG} (hg : GOk g) : g.1[57]? = some (.inr (.int, 120)) := by rw [hg.1]; rfl
theorem gs_58 {g : AG} (hg : GOk g) : g.1[58]? = some (.inr (.int, 26)) := by rw [hg.1]; rfl
theorem gs_59 {g : AG} (hg : GOk g) : g.1[59]? = some (.inr (.int, 120)) := by rw [hg.1]; rfl
theorem gs_60 {g : AG} (hg : GOk g) : g.1[60]? = some (.inr (.boolean, 120)) := by rw [hg.1]; rfl
theorem gs_61 {g : AG} (hg : GOk g) : g.1[61]? = some (.inl 0) := by rw [hg.1]; rfl
theorem gs_62 {g : AG} (hg : GOk g) : g.1[62]? = some (.inr (.int, 120)) := by rw [hg.1]; rfl
theorem gs_63 {g : AG} (hg : GOk g) : g.1[63]? = some (.inr (.int, 120)) := by rw [hg.1]; rfl
theorem gs_64 {g : AG} (hg : GOk g) : g.1[64]? = some (.inl 3) := by rw [hg.1]; rfl
theorem gs_65 {g : AG} (hg : GOk g) : g.1[65]? = some (.inr (.boolean, 80)) := by rw [hg.1]; rfl
theorem gs_66 {g : AG} (hg : GOk g) : g.1[66]? = some (.inl 2) := by rw [hg.1]; rfl
theorem gs_67 {g : AG} (hg : GOk g) : g.1[67]? = some (.inr (.array .int, 11)) := by rw [hg.1]; rfl
theorem gs_68 {g : AG} (hg : GOk g) : g.1[68]? = some (.inr (.int, 240)) := by rw [hg.1]; rfl
theorem gs_69 {g : AG} (hg : GOk g) : g.1[69]? = some (.inr (.int, 240)) := by rw [hg.1]; rfl
theorem gs_70 {g : AG} (hg : GOk g) : g.1[70]? = some (.inr (.int, 240)) := by rw [hg.1]; rfl
theorem gs_71 {g : AG} (hg : GOk g) : g.1[71]? = some (.inr (.int, 240)) := by rw [hg.1]; rfl
theorem gs_72 {g : AG} (hg : GOk g) : g.1[72]? = some (.inr (.int, 240)) := by rw [hg.1]; rfl
theorem gs_73 {g : AG} (hg : GOk g) : g.1[73]? = some (.inr (.int, 240)) := by rw [hg.1]; rfl
theorem gs_74 {g : AG} (hg : GOk g) : g.1[74]? = some (.inr (.int, 240)) := by rw [hg.1]; rfl
theorem gs_75 {g : AG} (hg : GOk g) : g.1[75]? = some (.inr (.int, 240)) := by rw [hg.1]; rfl
theorem gs_76 {g : AG} (hg : GOk g) : g.1[76]? = some (.inr (.int, 240)) := by rw [hg.1]; rfl
theorem gs_77 {g : AG} (hg : GOk g) : g.1[77]? = some (.inr (.int, 240)) := by rw [hg.1]; rfl
theorem gs_78 {g : AG} (hg : GOk g) : g.1[78]? = some (.inr (.int, 240)) := by rw [hg.1]; rfl
theorem gs_79 {g : AG} (hg : GOk g) : g.1[79]? = some (.inr (.int, 11)) := by rw [hg.1]; rfl
theorem gs_80 {g : AG} (hg : GOk g) : g.1[80]? = some (.inl 8) := by rw [hg.1]; rfl
theorem gs_81 {g : AG} (hg : GOk g) : g.1[81]? = some (.inr (.byte, 240)) := by rw [hg.1]; rfl
theorem gs_82 {g : AG} (hg : GOk g) : g.1[82]? = some (.inl 7) := by rw [hg.1]; rfl
theorem gs_83 {g : AG} (hg : GOk g) : g.1[83]? = some (.inr (.byte, 240)) := by rw [hg.1]; rfl
theorem gs_84 {g : AG} (hg : GOk g) : g.1[84]? = some (.inr (.int, 240)) := by rw [hg.1]; rfl
theorem gs_85 {g : AG} (hg : GOk g) : g.1[85]? = some (.inr (.int, 240)) := by rw [hg.1]; rfl
theorem gs_86 {g : AG} (hg : GOk g) : g.1[86]? = some (.inr (.int, 240)) := by rw [hg.1]; rfl
theorem gs_87 {g : AG} (hg : GOk g) : g.1[87]? = some (.inr (.int, 240)) := by rw [hg.1]; rfl
theorem gs_88 {g : AG} (hg : GOk g) : g.1[88]? = some (.inr (.int, 240)) := by rw [hg.1]; rfl
theorem gs_89 {g : AG} (hg : GOk g) : g.1[89]? = some (.inr (.int, 240)) := by rw [hg.1]; rfl
theorem gs_90 {g : AG} (hg : GOk g) : g.1[90]? = some (.inr (.int, 240)) := by rw [hg.1]; rfl
theorem gs_91 {g : AG} (hg : GOk g) : g.1[91]? = some (.inr (.boolean, 240)) := by rw [hg.1]; rfl
theorem gs_92 {g : AG} (hg : GOk g) : g.1[92]? = some (.inl 7) := by rw [hg.1]; rfl
theorem gs_93 {g : AG} (hg : GOk g) : g.1[93]? = some (.inr (.byte, 240)) := by rw [hg.1]; rfl
theorem gs_94 {g : AG} (hg : GOk g) : g.1[94]? = some (.inr (.int, 240)) := by rw [hg.1]; rfl
theorem gs_95 {g : AG} (hg : GOk g) : g.1[95]? = some (.inr (.int, 240)) := by rw [hg.1]; rfl
theorem gs_96 {g : AG} (hg : GOk g) : g.1[96]? = some (.inr (.int, 240)) := by rw [hg.1]; rfl
theorem gs_97 {g : AG} (hg : GOk g) : g.1[97]? = some (.inr (.int, 240)) := by rw [hg.1]; rfl
theorem gs_98 {g : AG} (hg : GOk g) : g.1[98]? = some (.inr (.int, 240)) := by rw [hg.1]; rfl
theorem gs_99 {g : AG} (hg : GOk g) : g.1[99]? = some (.inr (.int, 240)) := by rw [hg.1]; rfl
theorem gs_100 {g : AG} (hg : GOk g) : g.1[100]? = some (.inr (.int, 240)) := by rw [hg.1]; rfl
theorem gs_101 {g : AG} (hg : GOk g) : g.1[101]? = some (.inr (.boolean, 240)) := by rw [hg.1]; rfl
theorem gs_102 {g : AG} (hg : GOk g) : g.1[102]? = some (.inl 7) := by rw [hg.1]; rfl
theorem gs_103 {g : AG} (hg : GOk g) : g.1[103]? = some (.inr (.byte, 240)) := by rw [hg.1]; rfl
theorem gs_104 {g : AG} (hg : GOk g) : g.1[104]? = some (.inr (.int, 240)) := by rw [hg.1]; rfl
theorem gs_105 {g : AG} (hg : GOk g) : g.1[105]? = some (.inr (.int, 240)) := by rw [hg.1]; rfl
theorem gs_106 {g : AG} (hg : GOk g) : g.1[106]? = some (.inr (.int, 240)) := by rw [hg.1]; rfl
theorem gs_107 {g : AG} (hg : GOk g) : g.1[107]? = some (.inr (.int, 240)) := by rw [hg.1]; rfl
theorem gs_108 {g : AG} (hg : GOk g) : g.1[108]? = some (.inr (.int, 240)) := by rw [hg.1]; rfl
theorem gs_109 {g : AG} (hg : GOk g) : g.1[109]? = some (.inr (.int, 240)) := by rw [hg.1]; rfl
theorem gs_110 {g : AG} (hg : GOk g) : g.1[110]? = some (.inr (.int, 240)) := by rw [hg.1]; rfl
theorem gs_111 {g : AG} (hg : GOk g) : g.1[111]? = some (.inr (.boolean, 240)) := by rw [hg.1]; rfl
theorem gs_112 {g : AG} (hg : GOk g) : g.1[112]? = some (.inl 7) := by rw [hg.1]; rfl
theorem gs_113 {g : AG} (hg : GOk g) : g.1[113]? = some (.inr (.byte, 240)) := by rw [hg.1]; rfl
theorem gs_114 {g : AG} (hg : GOk g) : g.1[114]? = some (.inr (.int, 240)) := by rw [hg.1]; rfl
theorem gs_115 {g : AG} (hg : GOk g) : g.1[115]? = some (.inr (.int, 240)) := by rw [hg.1]; rfl
theorem gs_116 {g : AG} (hg : GOk g) : g.1[116]? = some (.inr (.int, 240)) := by rw [hg.1]; rfl
theorem gs_117 {g : AG} (hg : GOk g) : g.1[117]? = some (.inr (.int, 240)) := by rw [hg.1]; rfl
theorem gs_118 {g : AG} (hg : GOk g) : g.1[118]? = some (.inr (.int, 240)) := by rw [hg.1]; rfl
theorem gs_119 {g : AG} (hg : GOk g) : g.1[119]? = some (.inr (.int, 240)) := by rw [hg.1]; rfl
theorem gs_120 {g : AG} (hg : GOk g) : g.1[120]? = some (.inr (.int, 240)) := by rw [hg.1]; rfl
theorem gs_121 {g : AG} (hg : GOk g) : g.1[121]? = some (.inr (.boolean, 240)) := by rw [hg.1]; rfl
theorem gs_122 {g : AG} (hg : GOk g) : g.1[122]? = some (.inl 7) := by rw [hg.1]; rfl
theorem gs_123 {g : AG} (hg : GOk g) : g.1[123]? = some (.inr (.byte, 240)) := by rw [hg.1]; rfl
theorem gs_124 {g : AG} (hg : GOk g) : g.1[124]? = some (.inr (.int, 240)) := by rw [hg.1]; rfl
theorem gs_125 {g : AG} (hg : GOk g) : g.1[125]? = some (.inr (.int, 240)) := by rw [hg.1]; rfl
theorem gs_126 {g : AG} (hg : GOk g) : g.1[126]? = some (.inr (.int, 240)) := by rw [hg.1]; rfl
theorem gs_127 {g : AG} (hg : GOk g) : g.1[127]? = some (.inr (.int, 240)) := by rw [hg.1]; rfl
theorem gs_128 {g : AG} (hg : GOk g) : g.1[128]? = some (.inr (.int, 240)) := by rw [hg.1]; rfl
theorem gs_129 {g : AG} (hg : GOk g) : g.1[129]? = some (.inr (.int, 240)) := by rw [hg.1]; rfl
theorem gs_130 {g : AG} (hg : GOk g) : g.1[130]? = some (.inr (.int, 240)) := by rw [hg.1]; rfl
theorem gs_131 {g : AG} (hg : GOk g) : g.1[131]? = some (.inr (.boolean, 240)) := by rw [hg.1]; rfl
theorem gs_132 {g : AG} (hg : GOk g) : g.1[132]? = some (.inr (.byte, 2400)) := by rw [hg.1]; rfl
theorem gs_133 {g : AG} (hg : GOk g) : g.1[133]? = some (.inr (.int, 10)) := by rw [hg.1]; rfl
theorem gs_134 {g : AG} (hg : GOk g) : g.1[134]? = some (.inr (.boolean, 676)) := by rw [hg.1]; rfl
theorem gs_135 {g : AG} (hg : GOk g) : g.1[135]? = some (.inr (.int, 26)) := by rw [hg.1]; rfl
theorem gs_136 {g : AG} (hg : GOk g) : g.1[136]? = some (.inr (.int, 4000)) := by rw [hg.1]; rfl
theorem gs_137 {g : AG} (hg : GOk g) : g.1[137]? = some (.inr (.int, 4000)) := by rw [hg.1]; rfl
theorem gs_138 {g : AG} (hg : GOk g) : g.1[138]? = some (.inr (.int, 4000)) := by rw [hg.1]; rfl
theorem gs_139 {g : AG} (hg : GOk g) : g.1[139]? = some (.inr (.int, 4000)) := by rw [hg.1]; rfl
theorem gs_140 {g : AG} (hg : GOk g) : g.1[140]? = some (.inr (.int, 4000)) := by rw [hg.1]; rfl
theorem gs_141 {g : AG} (hg : GOk g) : g.1[141]? = some (.inr (.int, 26)) := by rw [hg.1]; rfl
theorem gs_142 {g : AG} (hg : GOk g) : g.1[142]? = some (.inr (.int, 26)) := by rw [hg.1]; rfl
theorem gs_143 {g : AG} (hg : GOk g) : g.1[143]? = some (.inr (.int, 26)) := by rw [hg.1]; rfl
theorem gs_144 {g : AG} (hg : GOk g) : g.1[144]? = some (.inr (.int, 26)) := by rw [hg.1]; rfl
theorem gs_145 {g : AG} (hg : GOk g) : g.1[145]? = some (.inr (.int, 26)) := by rw [hg.1]; rfl
theorem gs_146 {g : AG} (hg : GOk g) : g.1[146]? = some (.inr (.boolean, 240)) := by rw [hg.1]; rfl
theorem gs_147 {g : AG} (hg : GOk g) : g.1[147]? = some (.inr (.boolean, 240)) := by rw [hg.1]; rfl
theorem gs_148 {g : AG} (hg : GOk g) : g.1[148]? = some (.inr (.int, 240)) := by rw [hg.1]; rfl
theorem gs_149 {g : AG} (hg : GOk g) : g.1[149]? = some (.inr (.byte, 40000)) := by rw [hg.1]; rfl
theorem gs_150 {g : AG} (hg : GOk g) : g.1[150]? = some (.inr (.boolean, 240)) := by rw [hg.1]; rfl
theorem gs_151 {g : AG} (hg : GOk g) : g.1[151]? = some (.inr (.boolean, 240)) := by rw [hg.1]; rfl
theorem gs_152 {g : AG} (hg : GOk g) : g.1[152]? = some (.inr (.long, 1)) := by rw [hg.1]; rfl
theorem gp_1_0 {g : AG} (hg : GOk g) : g.2.1 1 0 = some 2 := hg.2 (1, 0, 2) (List.mem_of_getElem? (i := 0) rfl)
theorem gp_1_2 {g : AG} (hg : GOk g) : g.2.1 1 2 = some 3 := hg.2 (1, 2, 3) (List.mem_of_getElem? (i := 1) rfl)
theorem gp_1_3 {g : AG} (hg : GOk g) : g.2.1 1 3 = some 15 := hg.2 (1, 3, 15) (List.mem_of_getElem? (i := 2) rfl)
theorem gp_1_4 {g : AG} (hg : GOk g) : g.2.1 1 4 = some 27 := hg.2 (1, 4, 27) (List.mem_of_getElem? (i := 3) rfl)
theorem gp_1_5 {g : AG} (hg : GOk g) : g.2.1 1 5 = some 39 := hg.2 (1, 5, 39) (List.mem_of_getElem? (i := 4) rfl)
theorem gp_1_6 {g : AG} (hg : GOk g) : g.2.1 1 6 = some 51 := hg.2 (1, 6, 51) (List.mem_of_getElem? (i := 5) rfl)
theorem gp_1_7 {g : AG} (hg : GOk g) : g.2.1 1 7 = some 52 := hg.2 (1, 7, 52) (List.mem_of_getElem? (i := 6) rfl)
theorem gp_1_8 {g : AG} (hg : GOk g) : g.2.1 1 8 = some 61 := hg.2 (1, 8, 61) (List.mem_of_getElem? (i := 7) rfl)
theorem gp_1_9 {g : AG} (hg : GOk g) : g.2.1 1 9 = some 64 := hg.2 (1, 9, 64) (List.mem_of_getElem? (i := 8) rfl)
theorem gp_1_10 {g : AG} (hg : GOk g) : g.2.1 1 10 = some 66 := hg.2 (1, 10, 66) (List.mem_of_getElem? (i := 9) rfl)
theorem gp_3_0 {g : AG} (hg : GOk g) : g.2.1 3 0 = some 4 := hg.2 (3, 0, 4) (List.mem_of_getElem? (i := 10) rfl)
theorem gp_3_3 {g : AG} (hg : GOk g) : g.2.1 3 3 = some 5 := hg.2 (3, 3, 5) (List.mem_of_getElem? (i := 11) rfl)
theorem gp_3_4 {g : AG} (hg : GOk g) : g.2.1 3 4 = some 6 := hg.2 (3, 4, 6) (List.mem_of_getElem? (i := 12) rfl)
theorem gp_3_5 {g : AG} (hg : GOk g) : g.2.1 3 5 = some 7 := hg.2 (3, 5, 7) (List.mem_of_getElem? (i := 13) rfl)
theorem gp_3_6 {g : AG} (hg : GOk g) : g.2.1 3 6 = some 8 := hg.2 (3, 6, 8) (List.mem_of_getElem? (i := 14) rfl)
theorem gp_3_7 {g : AG} (hg : GOk g) : g.2.1 3 7 = some 9 := hg.2 (3, 7, 9) (List.mem_of_getElem? (i := 15) rfl)
theorem gp_3_8 {g : AG} (hg : GOk g) : g.2.1 3 8 = some 10 := hg.2 (3, 8, 10) (List.mem_of_getElem? (i := 16) rfl)
theorem gp_3_9 {g : AG} (hg : GOk g) : g.2.1 3 9 = some 11 := hg.2 (3, 9, 11) (List.mem_of_getElem? (i := 17) rfl)
theorem gp_3_10 {g : AG} (hg : GOk g) : g.2.1 3 10 = some 12 := hg.2 (3, 10, 12) (List.mem_of_getElem? (i := 18) rfl)
theorem gp_3_11 {g : AG} (hg : GOk g) : g.2.1 3 11 = some 13 := hg.2 (3, 11, 13) (List.mem_of_getElem? (i := 19) rfl)
theorem gp_3_12 {g : AG} (hg : GOk g) : g.2.1 3 12 = some 14 := hg.2 (3, 12, 14) (List.mem_of_getElem? (i := 20) rfl)
theorem gp_15_0 {g : AG} (hg : GOk g) : g.2.1 15 0 = some 16 := hg.2 (15, 0, 16) (List.mem_of_getElem? (i := 21) rfl)
theorem gp_15_3 {g : AG} (hg : GOk g) : g.2.1 15 3 = some 17 := hg.2 (15, 3, 17) (List.mem_of_getElem? (i := 22) rfl)
theorem gp_15_4 {g : AG} (hg : GOk g) : g.2.1 15 4 = some 18 := hg.2 (15, 4, 18) (List.mem_of_getElem? (i := 23) rfl)
theorem gp_15_5 {g : AG} (hg : GOk g) : g.2.1 15 5 = some 19 := hg.2 (15, 5, 19) (List.mem_of_getElem? (i := 24) rfl)
theorem gp_15_6 {g : AG} (hg : GOk g) : g.2.1 15 6 = some 20 := hg.2 (15, 6, 20) (List.mem_of_getElem? (i := 25) rfl)
theorem gp_15_7 {g : AG} (hg : GOk g) : g.2.1 15 7 = some 21 := hg.2 (15, 7, 21) (List.mem_of_getElem? (i := 26) rfl)
theorem gp_15_8 {g : AG} (hg : GOk g) : g.2.1 15 8 = some 22 := hg.2 (15, 8, 22) (List.mem_of_getElem? (i := 27) rfl)
theorem gp_15_9 {g : AG} (hg : GOk g) : g.2.1 15 9 = some 23 := hg.2 (15, 9, 23) (List.mem_of_getElem? (i := 28) rfl)
theorem gp_15_10 {g : AG} (hg : GOk g) : g.2.1 15 10 = some 24 := hg.2 (15, 10, 24) (List.mem_of_getElem? (i := 29) rfl)
theorem gp_15_11 {g : AG} (hg : GOk g) : g.2.1 15 11 = some 25 := hg.2 (15, 11, 25) (List.mem_of_getElem? (i := 30) rfl)
theorem gp_15_12 {g : AG} (hg : GOk g) : g.2.1 15 12 = some 26 := hg.2 (15, 12, 26) (List.mem_of_getElem? (i := 31) rfl)
theorem gp_27_0 {g : AG} (hg : GOk g) : g.2.1 27 0 = some 28 := hg.2 (27, 0, 28) (List.mem_of_getElem? (i := 32) rfl)
theorem gp_27_3 {g : AG} (hg : GOk g) : g.2.1 27 3 = some 29 := hg.2 (27, 3, 29) (List.mem_of_getElem? (i := 33) rfl)
theorem gp_27_4 {g : AG} (hg : GOk g) : g.2.1 27 4 = some 30 := hg.2 (27, 4, 30) (List.mem_of_getElem? (i := 34) rfl)
theorem gp_27_5 {g : AG} (hg : GOk g) : g.2.1 27 5 = some 31 := hg.2 (27, 5, 31) (List.mem_of_getElem? (i := 35) rfl)
theorem gp_27_6 {g : AG} (hg : GOk g) : g.2.1 27 6 = some 32 := hg.2 (27, 6, 32) (List.mem_of_getElem? (i := 36) rfl)
theorem gp_27_7 {g : AG} (hg : GOk g) : g.2.1 27 7 = some 33 := hg.2 (27, 7, 33) (List.mem_of_getElem? (i := 37) rfl)
theorem gp_27_8 {g : AG} (hg : GOk g) : g.2.1 27 8 = some 34 := hg.2 (27, 8, 34) (List.mem_of_getElem? (i := 38) rfl)
theorem gp_27_9 {g : AG} (hg : GOk g) : g.2.1 27 9 = some 35 := hg.2 (27, 9, 35) (List.mem_of_getElem? (i := 39) rfl)
theorem gp_27_10 {g : AG} (hg : GOk g) : g.2.1 27 10 = some 36 := hg.2 (27, 10, 36) (List.mem_of_getElem? (i := 40) rfl)
theorem gp_27_11 {g : AG} (hg : GOk g) : g.2.1 27 11 = some 37 := hg.2 (27, 11, 37) (List.mem_of_getElem? (i := 41) rfl)
theorem gp_27_12 {g : AG} (hg : GOk g) : g.2.1 27 12 = some 38 := hg.2 (27, 12, 38) (List.mem_of_getElem? (i := 42) rfl)
theorem gp_39_0 {g : AG} (hg : GOk g) : g.2.1 39 0 = some 40 := hg.2 (39, 0, 40) (List.mem_of_getElem? (i := 43) rfl)
theorem gp_39_3 {g : AG} (hg : GOk g) : g.2.1 39 3 = some 41 := hg.2 (39, 3, 41) (List.mem_of_getElem? (i := 44) rfl)
theorem gp_39_4 {g : AG} (hg : GOk g) : g.2.1 39 4 = some 42 := hg.2 (39, 4, 42) (List.mem_of_getElem? (i := 45) rfl)
theorem gp_39_5 {g : AG} (hg : GOk g) : g.2.1 39 5 = some 43 := hg.2 (39, 5, 43) (List.mem_of_getElem? (i := 46) rfl)
theorem gp_39_6 {g : AG} (hg : GOk g) : g.2.1 39 6 = some 44 := hg.2 (39, 6, 44) (List.mem_of_getElem? (i := 47) rfl)
theorem gp_39_7 {g : AG} (hg : GOk g) : g.2.1 39 7 = some 45 := hg.2 (39, 7, 45) (List.mem_of_getElem? (i := 48) rfl)
theorem gp_39_8 {g : AG} (hg : GOk g) : g.2.1 39 8 = some 46 := hg.2 (39, 8, 46) (List.mem_of_getElem? (i := 49) rfl)
theorem gp_39_9 {g : AG} (hg : GOk g) : g.2.1 39 9 = some 47 := hg.2 (39, 9, 47) (List.mem_of_getElem? (i := 50) rfl)
theorem gp_39_10 {g : AG} (hg : GOk g) : g.2.1 39 10 = some 48 := hg.2 (39, 10, 48) (List.mem_of_getElem? (i := 51) rfl)
theorem gp_39_11 {g : AG} (hg : GOk g) : g.2.1 39 11 = some 49 := hg.2 (39, 11, 49) (List.mem_of_getElem? (i := 52) rfl)
theorem gp_39_12 {g : AG} (hg : GOk g) : g.2.1 39 12 = some 50 := hg.2 (39, 12, 50) (List.mem_of_getElem? (i := 53) rfl)
theorem gp_52_0 {g : AG} (hg : GOk g) : g.2.1 52 0 = some 3 := hg.2 (52, 0, 3) (List.mem_of_getElem? (i := 54) rfl)
theorem gp_52_1 {g : AG} (hg : GOk g) : g.2.1 52 1 = some 15 := hg.2 (52, 1, 15) (List.mem_of_getElem? (i := 55) rfl)
theorem gp_52_2 {g : AG} (hg : GOk g) : g.2.1 52 2 = some 53 := hg.2 (52, 2, 53) (List.mem_of_getElem? (i := 56) rfl)
theorem gp_52_3 {g : AG} (hg : GOk g) : g.2.1 52 3 = some 54 := hg.2 (52, 3, 54) (List.mem_of_getElem? (i := 57) rfl)
theorem gp_52_4 {g : AG} (hg : GOk g) : g.2.1 52 4 = some 55 := hg.2 (52, 4, 55) (List.mem_of_getElem? (i := 58) rfl)
theorem gp_52_5 {g : AG} (hg : GOk g) : g.2.1 52 5 = some 56 := hg.2 (52, 5, 56) (List.mem_of_getElem? (i := 59) rfl)
theorem gp_52_6 {g : AG} (hg : GOk g) : g.2.1 52 6 = some 57 := hg.2 (52, 6, 57) (List.mem_of_getElem? (i := 60) rfl)
theorem gp_52_11 {g : AG} (hg : GOk g) : g.2.1 52 11 = some 58 := hg.2 (52, 11, 58) (List.mem_of_getElem? (i := 61) rfl)
theorem gp_52_12 {g : AG} (hg : GOk g) : g.2.1 52 12 = some 59 := hg.2 (52, 12, 59) (List.mem_of_getElem? (i := 62) rfl)
theorem gp_52_14 {g : AG} (hg : GOk g) : g.2.1 52 14 = some 60 := hg.2 (52, 14, 60) (List.mem_of_getElem? (i := 63) rfl)
theorem gp_61_0 {g : AG} (hg : GOk g) : g.2.1 61 0 = some 3 := hg.2 (61, 0, 3) (List.mem_of_getElem? (i := 64) rfl)
theorem gp_61_1 {g : AG} (hg : GOk g) : g.2.1 61 1 = some 52 := hg.2 (61, 1, 52) (List.mem_of_getElem? (i := 65) rfl)
theorem gp_61_2 {g : AG} (hg : GOk g) : g.2.1 61 2 = some 62 := hg.2 (61, 2, 62) (List.mem_of_getElem? (i := 66) rfl)
theorem gp_61_4 {g : AG} (hg : GOk g) : g.2.1 61 4 = some 63 := hg.2 (61, 4, 63) (List.mem_of_getElem? (i := 67) rfl)
theorem gp_64_0 {g : AG} (hg : GOk g) : g.2.1 64 0 = some 3 := hg.2 (64, 0, 3) (List.mem_of_getElem? (i := 68) rfl)
theorem gp_64_1 {g : AG} (hg : GOk g) : g.2.1 64 1 = some 27 := hg.2 (64, 1, 27) (List.mem_of_getElem? (i := 69) rfl)
theorem gp_64_2 {g : AG} (hg : GOk g) : g.2.1 64 2 = some 52 := hg.2 (64, 2, 52) (List.mem_of_getElem? (i := 70) rfl)
theorem gp_64_3 {g : AG} (hg : GOk g) : g.2.1 64 3 = some 65 := hg.2 (64, 3, 65) (List.mem_of_getElem? (i := 71) rfl)
theorem gp_66_0 {g : AG} (hg : GOk g) : g.2.1 66 0 = some 67 := hg.2 (66, 0, 67) (List.mem_of_getElem? (i := 72) rfl)
theorem gp_66_1 {g : AG} (hg : GOk g) : g.2.1 66 1 = some 79 := hg.2 (66, 1, 79) (List.mem_of_getElem? (i := 73) rfl)
theorem gp_67_0 {g : AG} (hg : GOk g) : g.2.1 67 0 = some 68 := hg.2 (67, 0, 68) (List.mem_of_getElem? (i := 74) rfl)
theorem gp_67_1 {g : AG} (hg : GOk g) : g.2.1 67 1 = some 69 := hg.2 (67, 1, 69) (List.mem_of_getElem? (i := 75) rfl)
theorem gp_67_2 {g : AG} (hg : GOk g) : g.2.1 67 2 = some 70 := hg.2 (67, 2, 70) (List.mem_of_getElem? (i := 76) rfl)
theorem gp_67_3 {g : AG} (hg : GOk g) : g.2.1 67 3 = some 71 := hg.2 (67, 3, 71) (List.mem_of_getElem? (i := 77) rfl)
theorem gp_67_4 {g : AG} (hg : GOk g) : g.2.1 67 4 = some 72 := hg.2 (67, 4, 72) (List.mem_of_getElem? (i := 78) rfl)
theorem gp_67_5 {g : AG} (hg : GOk g) : g.2.1 67 5 = some 73 := hg.2 (67, 5, 73) (List.mem_of_getElem? (i := 79) rfl)
theorem gp_67_6 {g : AG} (hg : GOk g) : g.2.1 67 6 = some 74 := hg.2 (67, 6, 74) (List.mem_of_getElem? (i := 80) rfl)
theorem gp_67_7 {g : AG} (hg : GOk g) : g.2.1 67 7 = some 75 := hg.2 (67, 7, 75) (List.mem_of_getElem? (i := 81) rfl)
theorem gp_67_8 {g : AG} (hg : GOk g) : g.2.1 67 8 = some 76 := hg.2 (67, 8, 76) (List.mem_of_getElem? (i := 82) rfl)
theorem gp_67_9 {g : AG} (hg : GOk g) : g.2.1 67 9 = some 77 := hg.2 (67, 9, 77) (List.mem_of_getElem? (i := 83) rfl)
theorem gp_67_10 {g : AG} (hg : GOk g) : g.2.1 67 10 = some 78 := hg.2 (67, 10, 78) (List.mem_of_getElem? (i := 84) rfl)
theorem gp_80_1 {g : AG} (hg : GOk g) : g.2.1 80 1 = some 81 := hg.2 (80, 1, 81) (List.mem_of_getElem? (i := 85) rfl)
theorem gp_80_3 {g : AG} (hg : GOk g) : g.2.1 80 3 = some 82 := hg.2 (80, 3, 82) (List.mem_of_getElem? (i := 86) rfl)
theorem gp_80_4 {g : AG} (hg : GOk g) : g.2.1 80 4 = some 92 := hg.2 (80, 4, 92) (List.mem_of_getElem? (i := 87) rfl)
theorem gp_80_5 {g : AG} (hg : GOk g) : g.2.1 80 5 = some 102 := hg.2 (80, 5, 102) (List.mem_of_getElem? (i := 88) rfl)
theorem gp_80_6 {g : AG} (hg : GOk g) : g.2.1 80 6 = some 112 := hg.2 (80, 6, 112) (List.mem_of_getElem? (i := 89) rfl)
theorem gp_80_7 {g : AG} (hg : GOk g) : g.2.1 80 7 = some 122 := hg.2 (80, 7, 122) (List.mem_of_getElem? (i := 90) rfl)
theorem gp_80_8 {g : AG} (hg : GOk g) : g.2.1 80 8 = some 132 := hg.2 (80, 8, 132) (List.mem_of_getElem? (i := 91) rfl)
theorem gp_80_9 {g : AG} (hg : GOk g) : g.2.1 80 9 = some 133 := hg.2 (80, 9, 133) (List.mem_of_getElem? (i := 92) rfl)
theorem gp_80_11 {g : AG} (hg : GOk g) : g.2.1 80 11 = some 134 := hg.2 (80, 11, 134) (List.mem_of_getElem? (i := 93) rfl)
theorem gp_80_20 {g : AG} (hg : GOk g) : g.2.1 80 20 = some 135 := hg.2 (80, 20, 135) (List.mem_of_getElem? (i := 94) rfl)
theorem gp_80_21 {g : AG} (hg : GOk g) : g.2.1 80 21 = some 136 := hg.2 (80, 21, 136) (List.mem_of_getElem? (i := 95) rfl)
theorem gp_80_22 {g : AG} (hg : GOk g) : g.2.1 80 22 = some 137 := hg.2 (80, 22, 137) (List.mem_of_getElem? (i := 96) rfl)
theorem gp_80_23 {g : AG} (hg : GOk g) : g.2.1 80 23 = some 138 := hg.2 (80, 23, 138) (List.mem_of_getElem? (i := 97) rfl)
theorem gp_80_24 {g : AG} (hg : GOk g) : g.2.1 80 24 = some 139 := hg.2 (80, 24, 139) (List.mem_of_getElem? (i := 98) rfl)
theorem gp_80_25 {g : AG} (hg : GOk g) : g.2.1 80 25 = some 140 := hg.2 (80, 25, 140) (List.mem_of_getElem? (i := 99) rfl)
theorem gp_80_27 {g : AG} (hg : GOk g) : g.2.1 80 27 = some 141 := hg.2 (80, 27, 141) (List.mem_of_getElem? (i := 100) rfl)
theorem gp_80_28 {g : AG} (hg : GOk g) : g.2.1 80 28 = some 142 := hg.2 (80, 28, 142) (List.mem_of_getElem? (i := 101) rfl)
theorem gp_80_29 {g : AG} (hg : GOk g) : g.2.1 80 29 = some 143 := hg.2 (80, 29, 143) (List.mem_of_getElem? (i := 102) rfl)
theorem gp_80_30 {g : AG} (hg : GOk g) : g.2.1 80 30 = some 144 := hg.2 (80, 30, 144) (List.mem_of_getElem? (i := 103) rfl)
theorem gp_80_31 {g : AG} (hg : GOk g) : g.2.1 80 31 = some 145 := hg.2 (80, 31, 145) (List.mem_of_getElem? (i := 104) rfl)
theorem gp_80_32 {g : AG} (hg : GOk g) : g.2.1 80 32 = some 146 := hg.2 (80, 32, 146) (List.mem_of_getElem? (i := 105) rfl)
theorem gp_80_33 {g : AG} (hg : GOk g) : g.2.1 80 33 = some 147 := hg.2 (80, 33, 147) (List.mem_of_getElem? (i := 106) rfl)
theorem gp_80_34 {g : AG} (hg : GOk g) : g.2.1 80 34 = some 148 := hg.2 (80, 34, 148) (List.mem_of_getElem? (i := 107) rfl)
theorem gp_80_35 {g : AG} (hg : GOk g) : g.2.1 80 35 = some 149 := hg.2 (80, 35, 149) (List.mem_of_getElem? (i := 108) rfl)
theorem gp_80_37 {g : AG} (hg : GOk g) : g.2.1 80 37 = some 150 := hg.2 (80, 37, 150) (List.mem_of_getElem? (i := 109) rfl)
theorem gp_80_38 {g : AG} (hg : GOk g) : g.2.1 80 38 = some 151 := hg.2 (80, 38, 151) (List.mem_of_getElem? (i := 110) rfl)
theorem gp_82_0 {g : AG} (hg : GOk g) : g.2.1 82 0 = some 83 := hg.2 (82, 0, 83) (List.mem_of_getElem? (i := 111) rfl)
theorem gp_82_3 {g : AG} (hg : GOk g) : g.2.1 82 3 = some 84 := hg.2 (82, 3, 84) (List.mem_of_getElem? (i := 112) rfl)
theorem gp_82_4 {g : AG} (hg : GOk g) : g.2.1 82 4 = some 85 := hg.2 (82, 4, 85) (List.mem_of_getElem? (i := 113) rfl)
theorem gp_82_5 {g : AG} (hg : GOk g) : g.2.1 82 5 = some 86 := hg.2 (82, 5, 86) (List.mem_of_getElem? (i := 114) rfl)
theorem gp_82_6 {g : AG} (hg : GOk g) : g.2.1 82 6 = some 87 := hg.2 (82, 6, 87) (List.mem_of_getElem? (i := 115) rfl)
theorem gp_82_7 {g : AG} (hg : GOk g) : g.2.1 82 7 = some 88 := hg.2 (82, 7, 88) (List.mem_of_getElem? (i := 116) rfl)
theorem gp_82_8 {g : AG} (hg : GOk g) : g.2.1 82 8 = some 89 := hg.2 (82, 8, 89) (List.mem_of_getElem? (i := 117) rfl)
theorem gp_82_9 {g : AG} (hg : GOk g) : g.2.1 82 9 = some 90 := hg.2 (82, 9, 90) (List.mem_of_getElem? (i := 118) rfl)
theorem gp_82_10 {g : AG} (hg : GOk g) : g.2.1 82 10 = some 91 := hg.2 (82, 10, 91) (List.mem_of_getElem? (i := 119) rfl)
theorem gp_92_0 {g : AG} (hg : GOk g) : g.2.1 92 0 = some 93 := hg.2 (92, 0, 93) (List.mem_of_getElem? (i := 120) rfl)
theorem gp_92_3 {g : AG} (hg : GOk g) : g.2.1 92 3 = some 94 := hg.2 (92, 3, 94) (List.mem_of_getElem? (i := 121) rfl)
theorem gp_92_4 {g : AG} (hg : GOk g) : g.2.1 92 4 = some 95 := hg.2 (92, 4, 95) (List.mem_of_getElem? (i := 122) rfl)
theorem gp_92_5 {g : AG} (hg : GOk g) : g.2.1 92 5 = some 96 := hg.2 (92, 5, 96) (List.mem_of_getElem? (i := 123) rfl)
theorem gp_92_6 {g : AG} (hg : GOk g) : g.2.1 92 6 = some 97 := hg.2 (92, 6, 97) (List.mem_of_getElem? (i := 124) rfl)
theorem gp_92_7 {g : AG} (hg : GOk g) : g.2.1 92 7 = some 98 := hg.2 (92, 7, 98) (List.mem_of_getElem? (i := 125) rfl)
theorem gp_92_8 {g : AG} (hg : GOk g) : g.2.1 92 8 = some 99 := hg.2 (92, 8, 99) (List.mem_of_getElem? (i := 126) rfl)
theorem gp_92_9 {g : AG} (hg : GOk g) : g.2.1 92 9 = some 100 := hg.2 (92, 9, 100) (List.mem_of_getElem? (i := 127) rfl)
theorem gp_92_10 {g : AG} (hg : GOk g) : g.2.1 92 10 = some 101 := hg.2 (92, 10, 101) (List.mem_of_getElem? (i := 128) rfl)
theorem gp_102_0 {g : AG} (hg : GOk g) : g.2.1 102 0 = some 103 := hg.2 (102, 0, 103) (List.mem_of_getElem? (i := 129) rfl)
theorem gp_102_3 {g : AG} (hg : GOk g) : g.2.1 102 3 = some 104 := hg.2 (102, 3, 104) (List.mem_of_getElem? (i := 130) rfl)
theorem gp_102_4 {g : AG} (hg : GOk g) : g.2.1 102 4 = some 105 := hg.2 (102, 4, 105) (List.mem_of_getElem? (i := 131) rfl)
theorem gp_102_5 {g : AG} (hg : GOk g) : g.2.1 102 5 = some 106 := hg.2 (102, 5, 106) (List.mem_of_getElem? (i := 132) rfl)
theorem gp_102_6 {g : AG} (hg : GOk g) : g.2.1 102 6 = some 107 := hg.2 (102, 6, 107) (List.mem_of_getElem? (i := 133) rfl)
theorem gp_102_7 {g : AG} (hg : GOk g) : g.2.1 102 7 = some 108 := hg.2 (102, 7, 108) (List.mem_of_getElem? (i := 134) rfl)
theorem gp_102_8 {g : AG} (hg : GOk g) : g.2.1 102 8 = some 109 := hg.2 (102, 8, 109) (List.mem_of_getElem? (i := 135) rfl)
theorem gp_102_9 {g : AG} (hg : GOk g) : g.2.1 102 9 = some 110 := hg.2 (102, 9, 110) (List.mem_of_getElem? (i := 136) rfl)
theorem gp_102_10 {g : AG} (hg : GOk g) : g.2.1 102 10 = some 111 := hg.2 (102, 10, 111) (List.mem_of_getElem? (i := 137) rfl)
theorem gp_112_0 {g : AG} (hg : GOk g) : g.2.1 112 0 = some 113 := hg.2 (112, 0, 113) (List.mem_of_getElem? (i := 138) rfl)
theorem gp_112_3 {g : AG} (hg : GOk g) : g.2.1 112 3 = some 114 := hg.2 (112, 3, 114) (List.mem_of_getElem? (i := 139) rfl)
theorem gp_112_4 {g : AG} (hg : GOk g) : g.2.1 112 4 = some 115 := hg.2 (112, 4, 115) (List.mem_of_getElem? (i := 140) rfl)
theorem gp_112_5 {g : AG} (hg : GOk g) : g.2.1 112 5 = some 116 := hg.2 (112, 5, 116) (List.mem_of_getElem? (i := 141) rfl)
theorem gp_112_6 {g : AG} (hg : GOk g) : g.2.1 112 6 = some 117 := hg.2 (112, 6, 117) (List.mem_of_getElem? (i := 142) rfl)
theorem gp_112_7 {g : AG} (hg : GOk g) : g.2.1 112 7 = some 118 := hg.2 (112, 7, 118) (List.mem_of_getElem? (i := 143) rfl)
theorem gp_112_8 {g : AG} (hg : GOk g) : g.2.1 112 8 = some 119 := hg.2 (112, 8, 119) (List.mem_of_getElem? (i := 144) rfl)
theorem gp_112_9 {g : AG} (hg : GOk g) : g.2.1 112 9 = some 120 := hg.2 (112, 9, 120) (List.mem_of_getElem? (i := 145) rfl)
theorem gp_112_10 {g : AG} (hg : GOk g) : g.2.1 112 10 = some 121 := hg.2 (112, 10, 121) (List.mem_of_getElem? (i := 146) rfl)
theorem gp_122_0 {g : AG} (hg : GOk g) : g.2.1 122 0 = some 123 := hg.2 (122, 0, 123) (List.mem_of_getElem? (i := 147) rfl)
theorem gp_122_3 {g : AG} (hg : GOk g) : g.2.1 122 3 = some 124 := hg.2 (122, 3, 124) (List.mem_of_getElem? (i := 148) rfl)
theorem gp_122_4 {g : AG} (hg : GOk g) : g.2.1 122 4 = some 125 := hg.2 (122, 4, 125) (List.mem_of_getElem? (i := 149) rfl)
theorem gp_122_5 {g : AG} (hg : GOk g) : g.2.1 122 5 = some 126 := hg.2 (122, 5, 126) (List.mem_of_getElem? (i := 150) rfl)
theorem gp_122_6 {g : AG} (hg : GOk g) : g.2.1 122 6 = some 127 := hg.2 (122, 6, 127) (List.mem_of_getElem? (i := 151) rfl)
theorem gp_122_7 {g : AG} (hg : GOk g) : g.2.1 122 7 = some 128 := hg.2 (122, 7, 128) (List.mem_of_getElem? (i := 152) rfl)
theorem gp_122_8 {g : AG} (hg : GOk g) : g.2.1 122 8 = some 129 := hg.2 (122, 8, 129) (List.mem_of_getElem? (i := 153) rfl)
theorem gp_122_9 {g : AG} (hg : GOk g) : g.2.1 122 9 = some 130 := hg.2 (122, 9, 130) (List.mem_of_getElem? (i := 154) rfl)
theorem gp_122_10 {g : AG} (hg : GOk g) : g.2.1 122 10 = some 131 := hg.2 (122, 10, 131) (List.mem_of_getElem? (i := 155) rfl)
theorem gs_row {g : AG} (hg : GOk g) {x : Int} (h0 : 0 ≤ x) (h1 : x < 11) : g.1[68 + x.toNat]? = some (.inr (.int, 240)) := by
  rw [hg.1]
  have h2 : ∀ n : Nat, n < 11 → S0[68 + n]? = some (.inr (.int, 240)) := by decide
  exact h2 _ (by omega)
theorem gp_row {g : AG} (hg : GOk g) {x : Int} (h0 : 0 ≤ x) (h1 : x < 11) : g.2.1 67 x.toNat = some (68 + x.toNat) := by
  have h2 : ∀ n : Nat, n < 11 → (67, n, 68 + n) ∈ PL := by decide
  exact hg.2 (67, x.toNat, 68 + x.toNat) (h2 _ (by omega))
def Tr (t : Nat) : Prop := t = 3 ∨ t = 15 ∨ t = 27 ∨ t = 39
def Mt (t : Nat) : Prop := t = 82 ∨ t = 92 ∨ t = 102 ∨ t = 112 ∨ t = 122
theorem tr_pos {t : Nat} (ht : Tr t) : 0 < t := by
  rcases ht with rfl | rfl | rfl | rfl <;> decide
theorem tr_s0 {g : AG} (hg : GOk g) {t : Nat} (ht : Tr t) : g.1[t]? = some (.inl 5) := by
  rcases ht with rfl | rfl | rfl | rfl
  · exact gs_3 hg
  · exact gs_15 hg
  · exact gs_27 hg
  · exact gs_39 hg
theorem tr_s1 {g : AG} (hg : GOk g) {t : Nat} (ht : Tr t) : g.1[t + 1]? = some (.inr (.int, 240)) := by
  rcases ht with rfl | rfl | rfl | rfl
  · exact gs_4 hg
  · exact gs_16 hg
  · exact gs_28 hg
  · exact gs_40 hg
theorem tr_p1 {g : AG} (hg : GOk g) {t : Nat} (ht : Tr t) : g.2.1 t 0 = some (t + 1) := by
  rcases ht with rfl | rfl | rfl | rfl
  · exact gp_3_0 hg
  · exact gp_15_0 hg
  · exact gp_27_0 hg
  · exact gp_39_0 hg
theorem tr_s2 {g : AG} (hg : GOk g) {t : Nat} (ht : Tr t) : g.1[t + 2]? = some (.inr (.int, 120)) := by
  rcases ht with rfl | rfl | rfl | rfl
  · exact gs_5 hg
  · exact gs_17 hg
  · exact gs_29 hg
  · exact gs_41 hg
theorem tr_p2 {g : AG} (hg : GOk g) {t : Nat} (ht : Tr t) : g.2.1 t 3 = some (t + 2) := by
  rcases ht with rfl | rfl | rfl | rfl
  · exact gp_3_3 hg
  · exact gp_15_3 hg
  · exact gp_27_3 hg
  · exact gp_39_3 hg
theorem tr_s3 {g : AG} (hg : GOk g) {t : Nat} (ht : Tr t) : g.1[t + 3]? = some (.inr (.int, 120)) := by
  rcases ht with rfl | rfl | rfl | rfl
  · exact gs_6 hg
  · exact gs_18 hg
  · exact gs_30 hg
  · exact gs_42 hg
theorem tr_p3 {g : AG} (hg : GOk g) {t : Nat} (ht : Tr t) : g.2.1 t 4 = some (t + 3) := by
  rcases ht with rfl | rfl | rfl | rfl
  · exact gp_3_4 hg
  · exact gp_15_4 hg
  · exact gp_27_4 hg
  · exact gp_39_4 hg
theorem tr_s4 {g : AG} (hg : GOk g) {t : Nat} (ht : Tr t) : g.1[t + 4]? = some (.inr (.int, 120)) := by
  rcases ht with rfl | rfl | rfl | rfl
  · exact gs_7 hg
  · exact gs_19 hg
  · exact gs_31 hg
  · exact gs_43 hg
theorem tr_p4 {g : AG} (hg : GOk g) {t : Nat} (ht : Tr t) : g.2.1 t 5 = some (t + 4) := by
  rcases ht with rfl | rfl | rfl | rfl
  · exact gp_3_5 hg
  · exact gp_15_5 hg
  · exact gp_27_5 hg
  · exact gp_39_5 hg
theorem tr_s5 {g : AG} (hg : GOk g) {t : Nat} (ht : Tr t) : g.1[t + 5]? = some (.inr (.int, 120)) := by
  rcases ht with rfl | rfl | rfl | rfl
  · exact gs_8 hg
  · exact gs_20 hg
  · exact gs_32 hg
  · exact gs_44 hg
theorem tr_p5 {g : AG} (hg : GOk g) {t : Nat} (ht : Tr t) : g.2.1 t 6 = some (t + 5) := by
  rcases ht with rfl | rfl | rfl | rfl
  · exact gp_3_6 hg
  · exact gp_15_6 hg
  · exact gp_27_6 hg
  · exact gp_39_6 hg
theorem tr_s6 {g : AG} (hg : GOk g) {t : Nat} (ht : Tr t) : g.1[t + 6]? = some (.inr (.int, 120)) := by
  rcases ht with rfl | rfl | rfl | rfl
  · exact gs_9 hg
  · exact gs_21 hg
  · exact gs_33 hg
  · exact gs_45 hg
theorem tr_p6 {g : AG} (hg : GOk g) {t : Nat} (ht : Tr t) : g.2.1 t 7 = some (t + 6) := by
  rcases ht with rfl | rfl | rfl | rfl
  · exact gp_3_7 hg
  · exact gp_15_7 hg
  · exact gp_27_7 hg
  · exact gp_39_7 hg
theorem tr_s7 {g : AG} (hg : GOk g) {t : Nat} (ht : Tr t) : g.1[t + 7]? = some (.inr (.int, 120)) := by
  rcases ht with rfl | rfl | rfl | rfl
  · exact gs_10 hg
  · exact gs_22 hg
  · exact gs_34 hg
  · exact gs_46 hg
theorem tr_p7 {g : AG} (hg : GOk g) {t : Nat} (ht : Tr t) : g.2.1 t 8 = some (t + 7) := by
  rcases ht with rfl | rfl | rfl | rfl
  · exact gp_3_8 hg
  · exact gp_15_8 hg
  · exact gp_27_8 hg
  · exact gp_39_8 hg
theorem tr_s8 {g : AG} (hg : GOk g) {t : Nat} (ht : Tr t) : g.1[t + 8]? = some (.inr (.int, 120)) := by
  rcases ht with rfl | rfl | rfl | rfl
  · exact gs_11 hg
  · exact gs_23 hg
  · exact gs_35 hg
  · exact gs_47 hg
theorem tr_p8 {g : AG} (hg : GOk g) {t : Nat} (ht : Tr t) : g.2.1 t 9 = some (t + 8) := by
  rcases ht with rfl | rfl | rfl | rfl
  · exact gp_3_9 hg
  · exact gp_15_9 hg
  · exact gp_27_9 hg
  · exact gp_39_9 hg
theorem tr_s9 {g : AG} (hg : GOk g) {t : Nat} (ht : Tr t) : g.1[t + 9]? = some (.inr (.int, 120)) := by
  rcases ht with rfl | rfl | rfl | rfl
  · exact gs_12 hg
  · exact gs_24 hg
  · exact gs_36 hg
  · exact gs_48 hg
theorem tr_p9 {g : AG} (hg : GOk g) {t : Nat} (ht : Tr t) : g.2.1 t 10 = some (t + 9) := by
  rcases ht with rfl | rfl | rfl | rfl
  · exact gp_3_10 hg
  · exact gp_15_10 hg
  · exact gp_27_10 hg
  · exact gp_39_10 hg
theorem tr_s10 {g : AG} (hg : GOk g) {t : Nat} (ht : Tr t) : g.1[t + 10]? = some (.inr (.int, 26)) := by
  rcases ht with rfl | rfl | rfl | rfl
  · exact gs_13 hg
  · exact gs_25 hg
  · exact gs_37 hg
  · exact gs_49 hg
theorem tr_p10 {g : AG} (hg : GOk g) {t : Nat} (ht : Tr t) : g.2.1 t 11 = some (t + 10) := by
  rcases ht with rfl | rfl | rfl | rfl
  · exact gp_3_11 hg
  · exact gp_15_11 hg
  · exact gp_27_11 hg
  · exact gp_39_11 hg
theorem tr_s11 {g : AG} (hg : GOk g) {t : Nat} (ht : Tr t) : g.1[t + 11]? = some (.inr (.int, 120)) := by
  rcases ht with rfl | rfl | rfl | rfl
  · exact gs_14 hg
  · exact gs_26 hg
  · exact gs_38 hg
  · exact gs_50 hg
theorem tr_p11 {g : AG} (hg : GOk g) {t : Nat} (ht : Tr t) : g.2.1 t 12 = some (t + 11) := by
  rcases ht with rfl | rfl | rfl | rfl
  · exact gp_3_12 hg
  · exact gp_15_12 hg
  · exact gp_27_12 hg
  · exact gp_39_12 hg
theorem mt_pos {t : Nat} (ht : Mt t) : 0 < t := by
  rcases ht with rfl | rfl | rfl | rfl | rfl <;> decide
theorem mt_s0 {g : AG} (hg : GOk g) {t : Nat} (ht : Mt t) : g.1[t]? = some (.inl 7) := by
  rcases ht with rfl | rfl | rfl | rfl | rfl
  · exact gs_82 hg
  · exact gs_92 hg
  · exact gs_102 hg
  · exact gs_112 hg
  · exact gs_122 hg
theorem mt_s1 {g : AG} (hg : GOk g) {t : Nat} (ht : Mt t) : g.1[t + 1]? = some (.inr (.byte, 240)) := by
  rcases ht with rfl | rfl | rfl | rfl | rfl
  · exact gs_83 hg
  · exact gs_93 hg
  · exact gs_103 hg
  · exact gs_113 hg
  · exact gs_123 hg
theorem mt_p1 {g : AG} (hg : GOk g) {t : Nat} (ht : Mt t) : g.2.1 t 0 = some (t + 1) := by
  rcases ht with rfl | rfl | rfl | rfl | rfl
  · exact gp_82_0 hg
  · exact gp_92_0 hg
  · exact gp_102_0 hg
  · exact gp_112_0 hg
  · exact gp_122_0 hg
theorem mt_s2 {g : AG} (hg : GOk g) {t : Nat} (ht : Mt t) : g.1[t + 2]? = some (.inr (.int, 240)) := by
  rcases ht with rfl | rfl | rfl | rfl | rfl
  · exact gs_84 hg
  · exact gs_94 hg
  · exact gs_104 hg
  · exact gs_114 hg
  · exact gs_124 hg
theorem mt_p2 {g : AG} (hg : GOk g) {t : Nat} (ht : Mt t) : g.2.1 t 3 = some (t + 2) := by
  rcases ht with rfl | rfl | rfl | rfl | rfl
  · exact gp_82_3 hg
  · exact gp_92_3 hg
  · exact gp_102_3 hg
  · exact gp_112_3 hg
  · exact gp_122_3 hg
theorem mt_s3 {g : AG} (hg : GOk g) {t : Nat} (ht : Mt t) : g.1[t + 3]? = some (.inr (.int, 240)) := by
  rcases ht with rfl | rfl | rfl | rfl | rfl
  · exact gs_85 hg
  · exact gs_95 hg
  · exact gs_105 hg
  · exact gs_115 hg
  · exact gs_125 hg
theorem mt_p3 {g : AG} (hg : GOk g) {t : Nat} (ht : Mt t) : g.2.1 t 4 = some (t + 3) := by
  rcases ht with rfl | rfl | rfl | rfl | rfl
  · exact gp_82_4 hg
  · exact gp_92_4 hg
  · exact gp_102_4 hg
  · exact gp_112_4 hg
  · exact gp_122_4 hg
theorem mt_s4 {g : AG} (hg : GOk g) {t : Nat} (ht : Mt t) : g.1[t + 4]? = some (.inr (.int, 240)) := by
  rcases ht with rfl | rfl | rfl | rfl | rfl
  · exact gs_86 hg
  · exact gs_96 hg
  · exact gs_106 hg
  · exact gs_116 hg
  · exact gs_126 hg
theorem mt_p4 {g : AG} (hg : GOk g) {t : Nat} (ht : Mt t) : g.2.1 t 5 = some (t + 4) := by
  rcases ht with rfl | rfl | rfl | rfl | rfl
  · exact gp_82_5 hg
  · exact gp_92_5 hg
  · exact gp_102_5 hg
  · exact gp_112_5 hg
  · exact gp_122_5 hg
theorem mt_s5 {g : AG} (hg : GOk g) {t : Nat} (ht : Mt t) : g.1[t + 5]? = some (.inr (.int, 240)) := by
  rcases ht with rfl | rfl | rfl | rfl | rfl
  · exact gs_87 hg
  · exact gs_97 hg
  · exact gs_107 hg
  · exact gs_117 hg
  · exact gs_127 hg
theorem mt_p5 {g : AG} (hg : GOk g) {t : Nat} (ht : Mt t) : g.2.1 t 6 = some (t + 5) := by
  rcases ht with rfl | rfl | rfl | rfl | rfl
  · exact gp_82_6 hg
  · exact gp_92_6 hg
  · exact gp_102_6 hg
  · exact gp_112_6 hg
  · exact gp_122_6 hg
theorem mt_s6 {g : AG} (hg : GOk g) {t : Nat} (ht : Mt t) : g.1[t + 6]? = some (.inr (.int, 240)) := by
  rcases ht with rfl | rfl | rfl | rfl | rfl
  · exact gs_88 hg
  · exact gs_98 hg
  · exact gs_108 hg
  · exact gs_118 hg
  · exact gs_128 hg
theorem mt_p6 {g : AG} (hg : GOk g) {t : Nat} (ht : Mt t) : g.2.1 t 7 = some (t + 6) := by
  rcases ht with rfl | rfl | rfl | rfl | rfl
  · exact gp_82_7 hg
  · exact gp_92_7 hg
  · exact gp_102_7 hg
  · exact gp_112_7 hg
  · exact gp_122_7 hg
theorem mt_s7 {g : AG} (hg : GOk g) {t : Nat} (ht : Mt t) : g.1[t + 7]? = some (.inr (.int, 240)) := by
  rcases ht with rfl | rfl | rfl | rfl | rfl
  · exact gs_89 hg
  · exact gs_99 hg
  · exact gs_109 hg
  · exact gs_119 hg
  · exact gs_129 hg
theorem mt_p7 {g : AG} (hg : GOk g) {t : Nat} (ht : Mt t) : g.2.1 t 8 = some (t + 7) := by
  rcases ht with rfl | rfl | rfl | rfl | rfl
  · exact gp_82_8 hg
  · exact gp_92_8 hg
  · exact gp_102_8 hg
  · exact gp_112_8 hg
  · exact gp_122_8 hg
theorem mt_s8 {g : AG} (hg : GOk g) {t : Nat} (ht : Mt t) : g.1[t + 8]? = some (.inr (.int, 240)) := by
  rcases ht with rfl | rfl | rfl | rfl | rfl
  · exact gs_90 hg
  · exact gs_100 hg
  · exact gs_110 hg
  · exact gs_120 hg
  · exact gs_130 hg
theorem mt_p8 {g : AG} (hg : GOk g) {t : Nat} (ht : Mt t) : g.2.1 t 9 = some (t + 8) := by
  rcases ht with rfl | rfl | rfl | rfl | rfl
  · exact gp_82_9 hg
  · exact gp_92_9 hg
  · exact gp_102_9 hg
  · exact gp_112_9 hg
  · exact gp_122_9 hg
theorem mt_s9 {g : AG} (hg : GOk g) {t : Nat} (ht : Mt t) : g.1[t + 9]? = some (.inr (.boolean, 240)) := by
  rcases ht with rfl | rfl | rfl | rfl | rfl
  · exact gs_91 hg
  · exact gs_101 hg
  · exact gs_111 hg
  · exact gs_121 hg
  · exact gs_131 hg
theorem mt_p9 {g : AG} (hg : GOk g) {t : Nat} (ht : Mt t) : g.2.1 t 10 = some (t + 9) := by
  rcases ht with rfl | rfl | rfl | rfl | rfl
  · exact gp_82_10 hg
  · exact gp_92_10 hg
  · exact gp_102_10 hg
  · exact gp_112_10 hg
  · exact gp_122_10 hg
section EVX
variable {Γ : GX} {d : Nat} {q : MI} {pc : Nat} {ls ls' : List (Option AV)} {st : List AV} {h : AH} {R : AR} {g : AG} {I : Nat → Nat → Int}
theorem e_top {x : Int} (k : ∀ y : Int, y = x → Ev Γ d q pc ls (.inl y :: st) h R) : Ev Γ d q pc ls (.inl x :: st) h R := k x rfl
theorem e_mem (k : ∀ J : Nat → Nat → Int, J = I → Ev Γ d q pc ls st (g, J) R) : Ev Γ d q pc ls st (g, I) R := k I rfl
theorem ev_drop (i : Nat) (hs : ls.set i none = ls') (k : Ev Γ d q pc ls' st h R) : Ev Γ d q pc ls st h R := by
  intro p e Rm s m args below meth c Q n0 s0 C h1 h2 hK H locs cells slots mls hl hol hos hH hz hc hsl
  subst hs
  refine k p e Rm s m args below meth c Q n0 s0 C h1 h2 hK H locs cells slots mls ⟨hl.1, hl.2.1, by rw [List.length_set]; exact hl.2.2.1, fun j v hj => ?_⟩ (fun v hv => ?_) hos hH hz hc hsl
  · rw [List.getElem?_set] at hj
    split at hj
    · split at hj <;> cases hj
    · exact hl.2.2.2 j v hj
  · rcases List.mem_or_eq_of_mem_set hv with hv | hv
    · exact hol v hv
    · cases hv
/-! Math.max, Math.min -/
def mWords (nm : MethodName) (cd : ByteArray) : List Cond := [.static nm, .initialized "java/lang/Math", .code nm cd 2 (some .int)]
set_option maxRecDepth 100000 in
theorem mMax_ok : (mWords Lib.Math.max.name Lib.Math.max.code).all (fun w => decide (w ∈ lw_tbl) && goodWord w) = true := by decide +kernel
set_option maxRecDepth 100000 in
theorem mMin_ok : (mWords Lib.Math.min.name Lib.Math.min.code).all (fun w => decide (w ∈ lw_tbl) && goodWord w) = true := by decide +kernel
theorem max_if {x y : Int} (hx : inR x) (hy : inR y) : Value.int (if Int32.ofInt x < Int32.ofInt y then Int32.ofInt y else Int32.ofInt x) = .int (Int32.ofInt (max x y)) := by
  by_cases e : x < y
  · rw [if_pos ((inR_lt hx hy).mpr e), Int.max_eq_right (by omega)]
  · rw [if_neg (fun z => e ((inR_lt hx hy).mp z)), Int.max_eq_left (by omega)]
theorem min_if {x y : Int} (hx : inR x) (hy : inR y) : Value.int (if Int32.ofInt y < Int32.ofInt x then Int32.ofInt y else Int32.ofInt x) = .int (Int32.ofInt (min x y)) := by
  by_cases e : y < x
  · rw [if_pos ((inR_lt hy hx).mpr e), Int.min_eq_right (by omega)]
  · rw [if_neg (fun z => e ((inR_lt hy hx).mp z)), Int.min_eq_left (by omega)]
theorem sum_cat' (l : List AV) : ((l.map (gV Γ)).map fun v => v.category).sum = l.length := sum_cat l
theorem e_mm {x y z : Int} {idx : Nat} {nm : MethodName} {cd : ByteArray} (hd : decode q.2.2.1 pc = .ok (.invokestatic idx, 3)) (hl : Cond.methodLink (cN q.1) idx nm ∈ lw_g) (hst : st.length ≤ 8) (hd1 : 1 ≤ d) (hz : inR x → inR y → inR z)
    (row : ∀ (p : Program) (e : Env) (Rm : Room) (s : State) (m : MethodId) (args : Array Value) (below : List Frame) (meth : Method) (c : Code) (Q : State → Prop) (H : Heap) (locs : List Loc) (cells slots : Nat) (mls : Array Slot), Cx Γ d q p Rm s m args meth c → c.maxLocals = mls.size → (Cond.methodLink (cN q.1) idx nm).before args s = true → 1 ≤ Rm.frames → ((st.map (gV Γ)).map fun v => v.category).sum + 13 ≤ Rm.locals → cells ≤ Rm.cells → slots ≤ Rm.slots → inR x → inR y →
      W p (gl Γ) e Rm s m args below meth c H locs cells slots Q (F0 m (pc + 3) mls (.int (Int32.ofInt z) :: st.map (gV Γ))) → W p (gl Γ) e Rm s m args below meth c H locs cells slots Q (F0 m pc mls (.int (Int32.ofInt y) :: .int (Int32.ofInt x) :: st.map (gV Γ))))
    (hnc : h.1.2.2.2.1 ≤ R.2.1.2.2.2.1) (hns : h.1.2.2.2.2 ≤ R.2.1.2.2.2.2) (k : Ev Γ d q (pc + 3) ls (.inl z :: st) h R) : Ev Γ d q pc ls (.inl y :: .inl x :: st) h R := by
  intro p e Rm s m args below meth c Q n0 s0 C h1 h2 hK H locs cells slots mls hl' hol hos hH hz' hc hsl
  have hy : inR y := okS_h hos
  have hx : inR x := okS_h (okS_t hos)
  have hw : ((st.map (gV Γ)).map fun v => v.category).sum = st.length := sum_cat st
  have hd2 : d ≤ Rm.frames := C.2.2.2.2.2.2.2.2.2.1
  have hd3 : 64 * d ≤ Rm.locals := C.2.2.2.2.2.2.2.2.2.2
  exact row p e Rm s m args below meth c Q H locs cells slots mls C (by rw [hl'.1]; exact C.2.2.1) (C.2.2.2.2.1 _ hl) (by omega) (by rw [hw]; omega) (by omega) (by omega) hx hy (k p e Rm s m args below meth c Q n0 s0 C h1 h2 hK H locs cells slots mls hl' hol (okS_i (hz hx hy) (okS_t (okS_t hos))) hH hz' hc hsl)
theorem inR_max {x y : Int} (hx : inR x) (hy : inR y) : inR (max x y) := by
  rcases Int.le_total x y with e | e
  · rw [Int.max_eq_right e]; exact hy
  · rw [Int.max_eq_left e]; exact hx
theorem inR_min {x y : Int} (hx : inR x) (hy : inR y) : inR (min x y) := by
  rcases Int.le_total x y with e | e
  · rw [Int.min_eq_left e]; exact hx
  · rw [Int.min_eq_right e]; exact hy
theorem e_max {x y : Int} {idx : Nat} (hd : decode q.2.2.1 pc = .ok (.invokestatic idx, 3)) (hl : Cond.methodLink (cN q.1) idx Lib.Math.max.name ∈ lw_g) (hst : st.length ≤ 8) (hd1 : 1 ≤ d) (hnc : h.1.2.2.2.1 ≤ R.2.1.2.2.2.1) (hns : h.1.2.2.2.2 ≤ R.2.1.2.2.2.2) (k : Ev Γ d q (pc + 3) ls (.inl (max x y) :: st) h R) : Ev Γ d q pc ls (.inl y :: .inl x :: st) h R :=
  e_mm (cd := Lib.Math.max.code) hd hl hst hd1 inR_max (fun p e Rm s m args below meth c Q H locs cells slots mls C h1 h2 h3 h4 h5 h6 hx hy w => va_mmax C.1 C.2.1 h1 C.2.2.2.1 h2 (C.2.2.2.2.1 _ (mem_l mMax_ok _ (by simp [mWords]))) (C.2.2.2.2.1 _ (mem_l mMax_ok _ (by simp [mWords]))) (C.2.2.2.2.1 _ (mem_l mMax_ok _ (by simp [mWords]))) h3 h4 h5 h6 hd (by
    rw [max_if hx hy]
    exact w)) hnc hns k
theorem e_min {x y : Int} {idx : Nat} (hd : decode q.2.2.1 pc = .ok (.invokestatic idx, 3)) (hl : Cond.methodLink (cN q.1) idx Lib.Math.min.name ∈ lw_g) (hst : st.length ≤ 8) (hd1 : 1 ≤ d) (hnc : h.1.2.2.2.1 ≤ R.2.1.2.2.2.1) (hns : h.1.2.2.2.2 ≤ R.2.1.2.2.2.2) (k : Ev Γ d q (pc + 3) ls (.inl (min x y) :: st) h R) : Ev Γ d q pc ls (.inl y :: .inl x :: st) h R :=
  e_mm (cd := Lib.Math.min.code) hd hl hst hd1 inR_min (fun p e Rm s m args below meth c Q H locs cells slots mls C h1 h2 h3 h4 h5 h6 hx hy w => va_mmin C.1 C.2.1 h1 C.2.2.2.1 h2 (C.2.2.2.2.1 _ (mem_l mMin_ok _ (by simp [mWords]))) (C.2.2.2.2.1 _ (mem_l mMin_ok _ (by simp [mWords]))) (C.2.2.2.2.1 _ (mem_l mMin_ok _ (by simp [mWords]))) h3 h4 h5 h6 hd (by
    rw [min_if hx hy]
    exact w)) hnc hns k
/-! System.arraycopy of ints -/
def cpy (I : Nat → Nat → Int) (a sp b dp n : Nat) : Nat → Nat → Int := fun c j => if c = b ∧ dp ≤ j ∧ j < dp + n then I a (sp + (j - dp)) else I c j
def cWords : List Cond := [.native arraycopyName, .static arraycopyName, .initialized "java/lang/System"]
set_option maxRecDepth 100000 in
theorem cW_ok : cWords.all (fun w => decide (w ∈ lw_tbl) && goodWord w) = true := by decide +kernel
theorem nfw : nativeFrameWords "java/lang/System" "arraycopy" 5 + 11 ≤ 56 := by decide +kernel
set_option maxHeartbeats 1000000 in
theorem e_copy {a b n0' n1' idx : Nat} {sp dp n : Int} (hd : decode q.2.2.1 pc = .ok (.invokestatic idx, 3)) (hl : Cond.methodLink (cN q.1) idx arraycopyName ∈ lw_g) (ha : 0 < a) (hsa : g.1[a]? = some (.inr (.int, n0'))) (hb : 0 < b) (hsb : g.1[b]? = some (.inr (.int, n1'))) (hbd : 0 ≤ sp ∧ 0 ≤ dp ∧ 0 ≤ n ∧ sp + n ≤ n0' ∧ dp + n ≤ n1') (hst : st.length ≤ 8) (hd1 : 1 ≤ d)
    (k : Ev Γ d q (pc + 3) ls st (g, cpy I a sp.toNat b dp.toNat n.toNat) R) : Ev Γ d q pc ls (.inl n :: .inl dp :: .inr (some b) :: .inl sp :: .inr (some a) :: st) (g, I) R := by
  intro p e Rm s m args below meth c Q n0 s0 C h1 h2 hK H locs cells slots mls hl' hol hos hH hz' hc hsl
  have hn : inR n := okS_h hos
  have hdp : inR dp := okS_h (okS_t hos)
  have hsp : inR sp := okS_h (okS_t (okS_t (okS_t hos)))
  have hw : ((st.map (gV Γ)).map fun v => v.category).sum = st.length := sum_cat st
  have hnw := nfw
  have hd2 : d ≤ Rm.frames := C.2.2.2.2.2.2.2.2.2.1
  have hd3 : 64 * d ≤ Rm.locals := C.2.2.2.2.2.2.2.2.2.2
  have hca := hH.2.2.2.2.1 a .int n0' ha hsa
  have hcb := hH.2.2.2.2.1 b .int n1' hb hsb
  have C' := C
  obtain ⟨hx, hbb, hml, hown, hts, hr, hlk, hnm, hKS, -, -⟩ := C
  have hA := (hKS.2.1 .int (by decide)).1
  have hF := (hKS.2.1 .int (by decide)).2
  show W p (gl Γ) e Rm s m args below meth c H locs cells slots Q (F0 m pc mls (.int (Int32.ofInt n) :: .int (Int32.ofInt dp) :: gV Γ (.inr (some b)) :: .int (Int32.ofInt sp) :: gV Γ (.inr (some a)) :: st.map (gV Γ)))
  rw [gV_ref ha, gV_ref hb]
  have fin : ∀ (H1 : Heap) (locs1 : List Loc), H1[gB Γ + (b - 1)]? = some (arrV (gA Γ .int) n1' (fun j => .int (va_cpy (fun k => Int32.ofInt (I a k)) (fun k => Int32.ofInt (I b k)) sp.toNat dp.toNat n.toNat j))) → H1.size = H.size → (∀ z, z ≠ gB Γ + (b - 1) → H1[z]? = H[z]?) → (∀ z ∈ locs1, gB Γ ≤ z.base) → W p (gl Γ) e Rm s m args below meth c H1 locs1 cells slots Q (F0 m (pc + 3) mls (st.map (gV Γ))) := by
    intro H1 locs1 e1 e2 e3 e4
    refine k p e Rm s m args below meth c Q n0 s0 C' h1 h2 hK H1 locs1 cells slots mls hl' hol (okS_t (okS_t (okS_t (okS_t (okS_t hos))))) (hH.upd (h' := (g, cpy I a sp.toNat b dp.toNat n.toNat)) hb rfl e2 e3 (fun b' hb' ty j => ?_) (fun b' j => ?_) (fun ci hs' => ?_) (fun ty n' hs' => ?_)) e4 hc hsl
    · have e5 : cpy I a sp.toNat b dp.toNat n.toNat b' j = I b' j := by simp [cpy, hb']
      cases ty <;> simp only [sv, e5]
    · show inR (cpy I a sp.toNat b dp.toNat n.toNat b' j)
      unfold cpy
      split
      · exact hH.2.2.2.2.2 _ _
      · exact hH.2.2.2.2.2 _ _
    · have hs2 : g.1[b]? = some (.inl ci) := hs'
      rw [hsb] at hs2
      cases hs2
    · have hs2 : g.1[b]? = some (.inr (ty, n')) := hs'
      rw [hsb] at hs2
      cases hs2
      rw [e1]
      congr 2
      funext j
      show Value.int _ = Value.int (Int32.ofInt (cpy I a sp.toNat b dp.toNat n.toNat b j))
      simp only [va_cpy, cpy, true_and]
      split <;> rfl
  have hca' : H[gB Γ + (a - 1)]? = some (arrV (gA Γ .int) n0' (fun j => .int ((fun k => Int32.ofInt (I a k)) j))) := hca
  have hcb' : H[gB Γ + (b - 1)]? = some (arrV (gA Γ .int) n1' (fun j => .int ((fun k => Int32.ofInt (I b k)) j))) := hcb
  have nn : ∀ z : Int32, ¬ z < 0 → z.toInt = (z.toNatClampNeg : Int) := by
    intro z hz
    have hz0 : (0 : Int) ≤ z.toInt := by
      have := Int32.not_lt.mp hz
      simpa using Int32.le_iff_toInt_le.mp this
    show z.toInt = ((z.toInt.toNat : Nat) : Int)
    omega
  have g1 : ¬ Int32.ofInt sp < 0 := by rw [inR_lt0 hsp]; omega
  have g2 : ¬ Int32.ofInt dp < 0 := by rw [inR_lt0 hdp]; omega
  have g3 : ¬ Int32.ofInt n < 0 := by rw [inR_lt0 hn]; omega
  have g4 : (Int32.ofInt sp).toNatClampNeg + (Int32.ofInt n).toNatClampNeg ≤ n0' := by rw [inR_cl hsp, inR_cl hn]; omega
  intro T hT X
  obtain ⟨-, k0, hk0, cm0, hkk0⟩ := hA n0' (fun j => .int ((fun k => Int32.ofInt (I a k)) j))
  obtain ⟨-, k1, hk1, cm1, hkk1⟩ := hA n1' (fun j => .int ((fun k => Int32.ofInt (I b k)) j))
  obtain ⟨vm', X', step⟩ := X.arraycopy hx hown (hts _ hl) (hts _ (mem_l cW_ok _ (by simp [cWords]))) (hts _ (mem_l cW_ok _ (by simp [cWords]))) (hts _ (mem_l cW_ok _ (by simp [cWords]))) (src := gB Γ + (a - 1)) (dst := gB Γ + (b - 1)) (cs := arrV (gA Γ .int) n0' (fun j => .int ((fun k => Int32.ofInt (I a k)) j))) (cd := arrV (gA Γ .int) n1' (fun j => .int ((fun k => Int32.ofInt (I b k)) j))) (srcPos := Int32.ofInt sp) (destPos := Int32.ofInt dp) (n := Int32.ofInt n) (by rw [hT]; exact hca') (by rw [hT]; exact hcb')
    (fun _ h => by cases h) (fun _ h => by cases h) (fun h => by cases h) (fun h => by cases h) hk0 hk1 hkk0 hkk1 (by simp [refKind]) g1 g2 g3
    (by rw [inR_t hsp, inR_t hn, arrV_size]; omega)
    (by rw [inR_t hdp, inR_t hn, arrV_size]; omega)
    (fun vm₁ _ i hi => by
      have e : (arrV (gA Γ .int) n0' (fun j => .int ((fun k => Int32.ofInt (I a k)) j))).slots.getD ((Int32.ofInt sp).toNatClampNeg + i) .null = .int (Int32.ofInt (I a ((Int32.ofInt sp).toNatClampNeg + i))) := by
        rw [Array.getD_eq_getD_getElem?, arrV_read _ _ (by omega)]
        rfl
      refine ⟨?_, ?_⟩
      · rw [e]
        rfl
      · rw [e]
        exact trivial)
    (g := F0 m pc mls (.int (Int32.ofInt n) :: .int (Int32.ofInt dp) :: .ref (gB Γ + (b - 1)) :: .int (Int32.ofInt sp) :: .ref (gB Γ + (a - 1)) :: st.map (gV Γ))) rfl (by rw [hml]; exact hl'.1) (rest := st.map (gV Γ)) rfl (by rw [hbb]; exact hd) (by omega) (by show 2 * 0 + _ + _ ≤ _; rw [hw]; omega)
  have e1 : copied (arrV (gA Γ .int) n0' (fun j => .int ((fun k => Int32.ofInt (I a k)) j))) (arrV (gA Γ .int) n1' (fun j => .int ((fun k => Int32.ofInt (I b k)) j))) (Int32.ofInt sp) (Int32.ofInt dp) (Int32.ofInt n) = arrV (gA Γ .int) n1' (fun j => .int (va_cpy (fun k => Int32.ofInt (I a k)) (fun k => Int32.ofInt (I b k)) (Int32.ofInt sp).toNatClampNeg (Int32.ofInt dp).toNatClampNeg (Int32.ofInt n).toNatClampNeg j)) := va_copied (fun z => .int z) (gA Γ .int) (gA Γ .int) _ _ g4
  rw [e1, inR_cl hsp, inR_cl hdp, inR_cl hn] at X' step
  have hlt : gB Γ + (b - 1) < H.size := (Array.getElem?_eq_some_iff.mp hcb').1
  obtain ⟨t, a1, b1⟩ := fin _ _ (by simp [Array.getElem?_setIfInBounds, hlt]) (by simp) (fun z hz => by simp [Array.getElem?_setIfInBounds, Ne.symm hz]) (fun z hz => by
    rcases List.mem_append.mp hz with hz | hz
    · exact hz' z hz
    · obtain ⟨z', -, hzz⟩ := List.mem_map.mp hz
      rw [← hzz]
      show gB Γ ≤ gB Γ + (b - 1)
      omega) ((T.setVm vm').setCell (gB Γ + (b - 1)) (arrV (gA Γ .int) n1' (fun j => .int (va_cpy (fun k => Int32.ofInt (I a k)) (fun k => Int32.ofInt (I b k)) sp.toNat dp.toNat n.toNat j)))) (by rw [← hT]; rfl) X'
  exact ⟨t, step t a1, b1⟩
end EVX

set_option maxRecDepth 100000 in
theorem cCopy_5_56 : Cond.methodLink (cN 5) 56 arraycopyName ∈ lw_g := mem_g 340 (by decide +kernel) (by decide +kernel)
set_option maxRecDepth 100000 in
theorem cMax_6_127 : Cond.methodLink (cN 6) 127 Lib.Math.max.name ∈ lw_g := mem_g 540 (by decide +kernel) (by decide +kernel)
set_option maxRecDepth 100000 in
theorem cMin_1_83 : Cond.methodLink (cN 1) 83 Lib.Math.min.name ∈ lw_g := mem_g 563 (by decide +kernel) (by decide +kernel)
set_option maxRecDepth 100000 in
theorem cMax_1_89 : Cond.methodLink (cN 1) 89 Lib.Math.max.name ∈ lw_g := mem_g 566 (by decide +kernel) (by decide +kernel)
set_option maxRecDepth 100000 in
theorem cCopy_2_32 : Cond.methodLink (cN 2) 32 arraycopyName ∈ lw_g := mem_g 661 (by decide +kernel) (by decide +kernel)
set_option maxRecDepth 100000 in
theorem cMin_3_67 : Cond.methodLink (cN 3) 67 Lib.Math.min.name ∈ lw_g := mem_g 693 (by decide +kernel) (by decide +kernel)
set_option maxRecDepth 100000 in
theorem cMin_2_41 : Cond.methodLink (cN 2) 41 Lib.Math.min.name ∈ lw_g := mem_g 707 (by decide +kernel) (by decide +kernel)
end
